section
-- ===== PART A: goes FIRST, ahead of the names: the tables' words, and 'selects' of the private methods out of them =====
/-- a private method of a class that the tables say can be made, by its rows of tables_1 -/
def lw_okq (q : MethodName × Nat) : Prop := (q.1.cls ≠ "java/lang/invoke/MethodHandle" ∧ q.1.cls ≠ "java/lang/invoke/VarHandle") ∧ Cond.instantiable q.1.cls q.2 ∈ tables_1 ∧ Cond.privateMethod q.1 ∈ tables_1 ∧ Cond.instanceMethod q.1 ∈ tables_1
theorem lw_p0 : lw_okq (⟨"ChordGrammars$Key", "change", "(IZ)Z"⟩, 2) := ⟨⟨by decide +kernel, by decide +kernel⟩, List.mem_of_getElem? (i := 34) (by decide +kernel), List.mem_of_getElem? (i := 297) (by decide +kernel), List.mem_of_getElem? (i := 298) (by decide +kernel)⟩
theorem lw_p1 : lw_okq (⟨"ChordGrammars$Tariff", "change", "(II)Z"⟩, 1) := ⟨⟨by decide +kernel, by decide +kernel⟩, List.mem_of_getElem? (i := 47) (by decide +kernel), List.mem_of_getElem? (i := 305) (by decide +kernel), List.mem_of_getElem? (i := 306) (by decide +kernel)⟩
theorem lw_p2 : lw_okq (⟨"ChordGrammars$Draft", "extend", "(IJ)I"⟩, 2) := ⟨⟨by decide +kernel, by decide +kernel⟩, List.mem_of_getElem? (i := 85) (by decide +kernel), List.mem_of_getElem? (i := 313) (by decide +kernel), List.mem_of_getElem? (i := 314) (by decide +kernel)⟩
theorem lw_p3 : lw_okq (⟨"ChordGrammars$Reader", "readAll", "(LChordGrammars$Draft;)I"⟩, 4) := ⟨⟨by decide +kernel, by decide +kernel⟩, List.mem_of_getElem? (i := 143) (by decide +kernel), List.mem_of_getElem? (i := 321) (by decide +kernel), List.mem_of_getElem? (i := 322) (by decide +kernel)⟩
theorem lw_p4 : lw_okq (⟨"ChordGrammars$Reader", "nextOctet", "(LChordGrammars$Draft;)I"⟩, 4) := ⟨⟨by decide +kernel, by decide +kernel⟩, List.mem_of_getElem? (i := 143) (by decide +kernel), List.mem_of_getElem? (i := 325) (by decide +kernel), List.mem_of_getElem? (i := 326) (by decide +kernel)⟩
theorem lw_p5 : lw_okq (⟨"ChordGrammars$Draft", "octetAt", "(I)I"⟩, 2) := ⟨⟨by decide +kernel, by decide +kernel⟩, List.mem_of_getElem? (i := 85) (by decide +kernel), List.mem_of_getElem? (i := 329) (by decide +kernel), List.mem_of_getElem? (i := 330) (by decide +kernel)⟩
theorem lw_p6 : lw_okq (⟨"ChordGrammars$Reader", "readRule", "(LChordGrammars$Draft;)Z"⟩, 4) := ⟨⟨by decide +kernel, by decide +kernel⟩, List.mem_of_getElem? (i := 143) (by decide +kernel), List.mem_of_getElem? (i := 333) (by decide +kernel), List.mem_of_getElem? (i := 334) (by decide +kernel)⟩
theorem lw_p7 : lw_okq (⟨"ChordGrammars$Reader", "takes", "(LChordGrammars$Draft;I)Z"⟩, 4) := ⟨⟨by decide +kernel, by decide +kernel⟩, List.mem_of_getElem? (i := 143) (by decide +kernel), List.mem_of_getElem? (i := 340) (by decide +kernel), List.mem_of_getElem? (i := 341) (by decide +kernel)⟩
theorem lw_p8 : lw_okq (⟨"ChordGrammars$Reader", "readItem", "(LChordGrammars$Draft;)I"⟩, 4) := ⟨⟨by decide +kernel, by decide +kernel⟩, List.mem_of_getElem? (i := 143) (by decide +kernel), List.mem_of_getElem? (i := 344) (by decide +kernel), List.mem_of_getElem? (i := 345) (by decide +kernel)⟩
theorem lw_p9 : lw_okq (⟨"ChordGrammars$Reader", "readCost", "(LChordGrammars$Draft;)I"⟩, 4) := ⟨⟨by decide +kernel, by decide +kernel⟩, List.mem_of_getElem? (i := 143) (by decide +kernel), List.mem_of_getElem? (i := 438) (by decide +kernel), List.mem_of_getElem? (i := 439) (by decide +kernel)⟩
theorem lw_p10 : lw_okq (⟨"ChordGrammars$Reader", "findReach", "()V"⟩, 4) := ⟨⟨by decide +kernel, by decide +kernel⟩, List.mem_of_getElem? (i := 143) (by decide +kernel), List.mem_of_getElem? (i := 445) (by decide +kernel), List.mem_of_getElem? (i := 446) (by decide +kernel)⟩
theorem lw_p11 : lw_okq (⟨"ChordGrammars$Grammar", "renames", "(I)Z"⟩, 6) := ⟨⟨by decide +kernel, by decide +kernel⟩, List.mem_of_getElem? (i := 101) (by decide +kernel), List.mem_of_getElem? (i := 449) (by decide +kernel), List.mem_of_getElem? (i := 450) (by decide +kernel)⟩
theorem lw_p12 : lw_okq (⟨"ChordGrammars$Reader", "reaches", "(II)Z"⟩, 4) := ⟨⟨by decide +kernel, by decide +kernel⟩, List.mem_of_getElem? (i := 143) (by decide +kernel), List.mem_of_getElem? (i := 453) (by decide +kernel), List.mem_of_getElem? (i := 454) (by decide +kernel)⟩
theorem lw_p13 : lw_okq (⟨"ChordGrammars$Reader", "ringPlace", "()I"⟩, 4) := ⟨⟨by decide +kernel, by decide +kernel⟩, List.mem_of_getElem? (i := 143) (by decide +kernel), List.mem_of_getElem? (i := 457) (by decide +kernel), List.mem_of_getElem? (i := 458) (by decide +kernel)⟩
theorem lw_p14 : lw_okq (⟨"ChordGrammars$Reader", "arrange", "()V"⟩, 4) := ⟨⟨by decide +kernel, by decide +kernel⟩, List.mem_of_getElem? (i := 143) (by decide +kernel), List.mem_of_getElem? (i := 461) (by decide +kernel), List.mem_of_getElem? (i := 462) (by decide +kernel)⟩
theorem lw_p15 : lw_okq (⟨"ChordGrammars$Grammar", "become", "(LChordGrammars$Grammar;)V"⟩, 6) := ⟨⟨by decide +kernel, by decide +kernel⟩, List.mem_of_getElem? (i := 101) (by decide +kernel), List.mem_of_getElem? (i := 471) (by decide +kernel), List.mem_of_getElem? (i := 472) (by decide +kernel)⟩
def lw_privs_1 : List (MethodName × Nat) := [(⟨"ChordGrammars$Key", "change", "(IZ)Z"⟩, 2), (⟨"ChordGrammars$Tariff", "change", "(II)Z"⟩, 1), (⟨"ChordGrammars$Draft", "extend", "(IJ)I"⟩, 2), (⟨"ChordGrammars$Reader", "readAll", "(LChordGrammars$Draft;)I"⟩, 4), (⟨"ChordGrammars$Reader", "nextOctet", "(LChordGrammars$Draft;)I"⟩, 4), (⟨"ChordGrammars$Draft", "octetAt", "(I)I"⟩, 2), (⟨"ChordGrammars$Reader", "readRule", "(LChordGrammars$Draft;)Z"⟩, 4), (⟨"ChordGrammars$Reader", "takes", "(LChordGrammars$Draft;I)Z"⟩, 4), (⟨"ChordGrammars$Reader", "readItem", "(LChordGrammars$Draft;)I"⟩, 4), (⟨"ChordGrammars$Reader", "readCost", "(LChordGrammars$Draft;)I"⟩, 4), (⟨"ChordGrammars$Reader", "findReach", "()V"⟩, 4), (⟨"ChordGrammars$Grammar", "renames", "(I)Z"⟩, 6), (⟨"ChordGrammars$Reader", "reaches", "(II)Z"⟩, 4), (⟨"ChordGrammars$Reader", "ringPlace", "()I"⟩, 4), (⟨"ChordGrammars$Reader", "arrange", "()V"⟩, 4), (⟨"ChordGrammars$Grammar", "become", "(LChordGrammars$Grammar;)V"⟩, 6)]
theorem lw_r1 : ∀ q ∈ lw_privs_1, lw_okq q := List.forall_mem_cons.mpr ⟨lw_p0, List.forall_mem_cons.mpr ⟨lw_p1, List.forall_mem_cons.mpr ⟨lw_p2, List.forall_mem_cons.mpr ⟨lw_p3, List.forall_mem_cons.mpr ⟨lw_p4, List.forall_mem_cons.mpr ⟨lw_p5, List.forall_mem_cons.mpr ⟨lw_p6, List.forall_mem_cons.mpr ⟨lw_p7, List.forall_mem_cons.mpr ⟨lw_p8, List.forall_mem_cons.mpr ⟨lw_p9, List.forall_mem_cons.mpr ⟨lw_p10, List.forall_mem_cons.mpr ⟨lw_p11, List.forall_mem_cons.mpr ⟨lw_p12, List.forall_mem_cons.mpr ⟨lw_p13, List.forall_mem_cons.mpr ⟨lw_p14, List.forall_mem_cons.mpr ⟨lw_p15, fun _ h => absurd h List.not_mem_nil⟩⟩⟩⟩⟩⟩⟩⟩⟩⟩⟩⟩⟩⟩⟩⟩
theorem lw_p16 : lw_okq (⟨"ChordGrammars$Slots", "add", "(III)I"⟩, 4) := ⟨⟨by decide +kernel, by decide +kernel⟩, List.mem_of_getElem? (i := 58) (by decide +kernel), List.mem_of_getElem? (i := 482) (by decide +kernel), List.mem_of_getElem? (i := 483) (by decide +kernel)⟩
theorem lw_p17 : lw_okq (⟨"ChordGrammars$Slots", "has", "(I)Z"⟩, 4) := ⟨⟨by decide +kernel, by decide +kernel⟩, List.mem_of_getElem? (i := 58) (by decide +kernel), List.mem_of_getElem? (i := 494) (by decide +kernel), List.mem_of_getElem? (i := 495) (by decide +kernel)⟩
theorem lw_p18 : lw_okq (⟨"ChordGrammars$Tariff", "ofFit", "(IIII)I"⟩, 1) := ⟨⟨by decide +kernel, by decide +kernel⟩, List.mem_of_getElem? (i := 47) (by decide +kernel), List.mem_of_getElem? (i := 498) (by decide +kernel), List.mem_of_getElem? (i := 499) (by decide +kernel)⟩
theorem lw_p19 : lw_okq (⟨"ChordGrammars$Tariff", "ofBass", "(III)I"⟩, 1) := ⟨⟨by decide +kernel, by decide +kernel⟩, List.mem_of_getElem? (i := 47) (by decide +kernel), List.mem_of_getElem? (i := 508) (by decide +kernel), List.mem_of_getElem? (i := 509) (by decide +kernel)⟩
theorem lw_p20 : lw_okq (⟨"ChordGrammars$Tariff", "cheapest", "(II)I"⟩, 1) := ⟨⟨by decide +kernel, by decide +kernel⟩, List.mem_of_getElem? (i := 47) (by decide +kernel), List.mem_of_getElem? (i := 516) (by decide +kernel), List.mem_of_getElem? (i := 517) (by decide +kernel)⟩
theorem lw_p21 : lw_okq (⟨"ChordGrammars$Chart", "listAll", "(LChordGrammars$Grammar;LChordGrammars$Slots;LChordGrammars$Key;LChordGrammars$Tariff;)V"⟩, 7) := ⟨⟨by decide +kernel, by decide +kernel⟩, List.mem_of_getElem? (i := 165) (by decide +kernel), List.mem_of_getElem? (i := 526) (by decide +kernel), List.mem_of_getElem? (i := 527) (by decide +kernel)⟩
theorem lw_p22 : lw_okq (⟨"ChordGrammars$Symbols", "fill", "(LChordGrammars$Slots;LChordGrammars$Key;LChordGrammars$Tariff;)V"⟩, 2) := ⟨⟨by decide +kernel, by decide +kernel⟩, List.mem_of_getElem? (i := 173) (by decide +kernel), List.mem_of_getElem? (i := 532) (by decide +kernel), List.mem_of_getElem? (i := 533) (by decide +kernel)⟩
theorem lw_p23 : lw_okq (⟨"ChordGrammars$Key", "rootOf", "(I)I"⟩, 2) := ⟨⟨by decide +kernel, by decide +kernel⟩, List.mem_of_getElem? (i := 34) (by decide +kernel), List.mem_of_getElem? (i := 536) (by decide +kernel), List.mem_of_getElem? (i := 537) (by decide +kernel)⟩
theorem lw_p24 : lw_okq (⟨"ChordGrammars$Symbols", "fillDegree", "(LChordGrammars$Slots;IIILChordGrammars$Tariff;)V"⟩, 2) := ⟨⟨by decide +kernel, by decide +kernel⟩, List.mem_of_getElem? (i := 173) (by decide +kernel), List.mem_of_getElem? (i := 544) (by decide +kernel), List.mem_of_getElem? (i := 545) (by decide +kernel)⟩
theorem lw_p25 : lw_okq (⟨"ChordGrammars$Chart", "fillSpan", "(II)V"⟩, 7) := ⟨⟨by decide +kernel, by decide +kernel⟩, List.mem_of_getElem? (i := 165) (by decide +kernel), List.mem_of_getElem? (i := 549) (by decide +kernel), List.mem_of_getElem? (i := 550) (by decide +kernel)⟩
theorem lw_p26 : lw_okq (⟨"ChordGrammars$Chart", "addWhole", "(III)V"⟩, 7) := ⟨⟨by decide +kernel, by decide +kernel⟩, List.mem_of_getElem? (i := 165) (by decide +kernel), List.mem_of_getElem? (i := 556) (by decide +kernel), List.mem_of_getElem? (i := 557) (by decide +kernel)⟩
theorem lw_p27 : lw_okq (⟨"ChordGrammars$Chart", "sizeOf", "(III)I"⟩, 7) := ⟨⟨by decide +kernel, by decide +kernel⟩, List.mem_of_getElem? (i := 165) (by decide +kernel), List.mem_of_getElem? (i := 560) (by decide +kernel), List.mem_of_getElem? (i := 561) (by decide +kernel)⟩
theorem lw_p28 : lw_okq (⟨"ChordGrammars$Chart", "chordOf", "(II)I"⟩, 7) := ⟨⟨by decide +kernel, by decide +kernel⟩, List.mem_of_getElem? (i := 165) (by decide +kernel), List.mem_of_getElem? (i := 564) (by decide +kernel), List.mem_of_getElem? (i := 565) (by decide +kernel)⟩
theorem lw_p29 : lw_okq (⟨"ChordGrammars$Chart", "countOf", "(III)J"⟩, 7) := ⟨⟨by decide +kernel, by decide +kernel⟩, List.mem_of_getElem? (i := 165) (by decide +kernel), List.mem_of_getElem? (i := 568) (by decide +kernel), List.mem_of_getElem? (i := 569) (by decide +kernel)⟩
theorem lw_p30 : lw_okq (⟨"ChordGrammars$Chart", "priceOf", "(IIII)I"⟩, 7) := ⟨⟨by decide +kernel, by decide +kernel⟩, List.mem_of_getElem? (i := 165) (by decide +kernel), List.mem_of_getElem? (i := 572) (by decide +kernel), List.mem_of_getElem? (i := 573) (by decide +kernel)⟩
theorem lw_p31 : lw_okq (⟨"ChordGrammars$Chart", "entryAt", "(IIII)J"⟩, 7) := ⟨⟨by decide +kernel, by decide +kernel⟩, List.mem_of_getElem? (i := 165) (by decide +kernel), List.mem_of_getElem? (i := 576) (by decide +kernel), List.mem_of_getElem? (i := 577) (by decide +kernel)⟩
def lw_privs_2 : List (MethodName × Nat) := [(⟨"ChordGrammars$Slots", "add", "(III)I"⟩, 4), (⟨"ChordGrammars$Slots", "has", "(I)Z"⟩, 4), (⟨"ChordGrammars$Tariff", "ofFit", "(IIII)I"⟩, 1), (⟨"ChordGrammars$Tariff", "ofBass", "(III)I"⟩, 1), (⟨"ChordGrammars$Tariff", "cheapest", "(II)I"⟩, 1), (⟨"ChordGrammars$Chart", "listAll", "(LChordGrammars$Grammar;LChordGrammars$Slots;LChordGrammars$Key;LChordGrammars$Tariff;)V"⟩, 7), (⟨"ChordGrammars$Symbols", "fill", "(LChordGrammars$Slots;LChordGrammars$Key;LChordGrammars$Tariff;)V"⟩, 2), (⟨"ChordGrammars$Key", "rootOf", "(I)I"⟩, 2), (⟨"ChordGrammars$Symbols", "fillDegree", "(LChordGrammars$Slots;IIILChordGrammars$Tariff;)V"⟩, 2), (⟨"ChordGrammars$Chart", "fillSpan", "(II)V"⟩, 7), (⟨"ChordGrammars$Chart", "addWhole", "(III)V"⟩, 7), (⟨"ChordGrammars$Chart", "sizeOf", "(III)I"⟩, 7), (⟨"ChordGrammars$Chart", "chordOf", "(II)I"⟩, 7), (⟨"ChordGrammars$Chart", "countOf", "(III)J"⟩, 7), (⟨"ChordGrammars$Chart", "priceOf", "(IIII)I"⟩, 7), (⟨"ChordGrammars$Chart", "entryAt", "(IIII)J"⟩, 7)]
theorem lw_r2 : ∀ q ∈ lw_privs_2, lw_okq q := List.forall_mem_cons.mpr ⟨lw_p16, List.forall_mem_cons.mpr ⟨lw_p17, List.forall_mem_cons.mpr ⟨lw_p18, List.forall_mem_cons.mpr ⟨lw_p19, List.forall_mem_cons.mpr ⟨lw_p20, List.forall_mem_cons.mpr ⟨lw_p21, List.forall_mem_cons.mpr ⟨lw_p22, List.forall_mem_cons.mpr ⟨lw_p23, List.forall_mem_cons.mpr ⟨lw_p24, List.forall_mem_cons.mpr ⟨lw_p25, List.forall_mem_cons.mpr ⟨lw_p26, List.forall_mem_cons.mpr ⟨lw_p27, List.forall_mem_cons.mpr ⟨lw_p28, List.forall_mem_cons.mpr ⟨lw_p29, List.forall_mem_cons.mpr ⟨lw_p30, List.forall_mem_cons.mpr ⟨lw_p31, fun _ h => absurd h List.not_mem_nil⟩⟩⟩⟩⟩⟩⟩⟩⟩⟩⟩⟩⟩⟩⟩⟩
theorem lw_p32 : lw_okq (⟨"ChordGrammars$Chart", "offer", "(IJ)Z"⟩, 7) := ⟨⟨by decide +kernel, by decide +kernel⟩, List.mem_of_getElem? (i := 165) (by decide +kernel), List.mem_of_getElem? (i := 583) (by decide +kernel), List.mem_of_getElem? (i := 584) (by decide +kernel)⟩
theorem lw_p33 : lw_okq (⟨"ChordGrammars$Chart", "addParts", "(IIII)V"⟩, 7) := ⟨⟨by decide +kernel, by decide +kernel⟩, List.mem_of_getElem? (i := 165) (by decide +kernel), List.mem_of_getElem? (i := 587) (by decide +kernel), List.mem_of_getElem? (i := 588) (by decide +kernel)⟩
theorem lw_p34 : lw_okq (⟨"ChordGrammars$Chart", "listed", "()I"⟩, 7) := ⟨⟨by decide +kernel, by decide +kernel⟩, List.mem_of_getElem? (i := 165) (by decide +kernel), List.mem_of_getElem? (i := 592) (by decide +kernel), List.mem_of_getElem? (i := 593) (by decide +kernel)⟩
theorem lw_p35 : lw_okq (⟨"ChordGrammars$Chart", "wholeRow", "()I"⟩, 7) := ⟨⟨by decide +kernel, by decide +kernel⟩, List.mem_of_getElem? (i := 165) (by decide +kernel), List.mem_of_getElem? (i := 596) (by decide +kernel), List.mem_of_getElem? (i := 597) (by decide +kernel)⟩
theorem lw_p36 : lw_okq (⟨"ChordGrammars$Chart", "countOfAll", "()J"⟩, 7) := ⟨⟨by decide +kernel, by decide +kernel⟩, List.mem_of_getElem? (i := 165) (by decide +kernel), List.mem_of_getElem? (i := 604) (by decide +kernel), List.mem_of_getElem? (i := 605) (by decide +kernel)⟩
theorem lw_p37 : lw_okq (⟨"ChordGrammars", "isListed", "(I)Z"⟩, 8) := ⟨⟨by decide +kernel, by decide +kernel⟩, List.mem_of_getElem? (i := 26) (by decide +kernel), List.mem_of_getElem? (i := 612) (by decide +kernel), List.mem_of_getElem? (i := 613) (by decide +kernel)⟩
theorem lw_p38 : lw_okq (⟨"ChordGrammars$Chart", "priceOfWhole", "(I)I"⟩, 7) := ⟨⟨by decide +kernel, by decide +kernel⟩, List.mem_of_getElem? (i := 165) (by decide +kernel), List.mem_of_getElem? (i := 616) (by decide +kernel), List.mem_of_getElem? (i := 617) (by decide +kernel)⟩
theorem lw_p39 : lw_okq (⟨"ChordGrammars", "treeOf", "(I)LChordGrammars$Tree;"⟩, 8) := ⟨⟨by decide +kernel, by decide +kernel⟩, List.mem_of_getElem? (i := 26) (by decide +kernel), List.mem_of_getElem? (i := 624) (by decide +kernel), List.mem_of_getElem? (i := 625) (by decide +kernel)⟩
theorem lw_p40 : lw_okq (⟨"ChordGrammars$Tree", "walk", "(LChordGrammars$Chart;I)V"⟩, 13) := ⟨⟨by decide +kernel, by decide +kernel⟩, List.mem_of_getElem? (i := 215) (by decide +kernel), List.mem_of_getElem? (i := 628) (by decide +kernel), List.mem_of_getElem? (i := 629) (by decide +kernel)⟩
theorem lw_p41 : lw_okq (⟨"ChordGrammars$Tree", "push", "(IIII)V"⟩, 13) := ⟨⟨by decide +kernel, by decide +kernel⟩, List.mem_of_getElem? (i := 215) (by decide +kernel), List.mem_of_getElem? (i := 632) (by decide +kernel), List.mem_of_getElem? (i := 633) (by decide +kernel)⟩
theorem lw_p42 : lw_okq (⟨"ChordGrammars$Tree", "visit", "(LChordGrammars$Chart;II)V"⟩, 13) := ⟨⟨by decide +kernel, by decide +kernel⟩, List.mem_of_getElem? (i := 215) (by decide +kernel), List.mem_of_getElem? (i := 636) (by decide +kernel), List.mem_of_getElem? (i := 637) (by decide +kernel)⟩
theorem lw_p43 : lw_okq (⟨"ChordGrammars$Tree", "pushParts", "(LChordGrammars$Grammar;JII)V"⟩, 13) := ⟨⟨by decide +kernel, by decide +kernel⟩, List.mem_of_getElem? (i := 215) (by decide +kernel), List.mem_of_getElem? (i := 646) (by decide +kernel), List.mem_of_getElem? (i := 647) (by decide +kernel)⟩
theorem lw_p44 : lw_okq (⟨"ChordGrammars$Chart", "hasSlot", "(I)Z"⟩, 7) := ⟨⟨by decide +kernel, by decide +kernel⟩, List.mem_of_getElem? (i := 165) (by decide +kernel), List.mem_of_getElem? (i := 667) (by decide +kernel), List.mem_of_getElem? (i := 668) (by decide +kernel)⟩
theorem lw_p45 : lw_okq (⟨"ChordGrammars$Tree", "degreeAt", "(I)I"⟩, 13) := ⟨⟨by decide +kernel, by decide +kernel⟩, List.mem_of_getElem? (i := 215) (by decide +kernel), List.mem_of_getElem? (i := 675) (by decide +kernel), List.mem_of_getElem? (i := 676) (by decide +kernel)⟩
theorem lw_p46 : lw_okq (⟨"ChordGrammars$Chart", "pitchAt", "(I)I"⟩, 7) := ⟨⟨by decide +kernel, by decide +kernel⟩, List.mem_of_getElem? (i := 165) (by decide +kernel), List.mem_of_getElem? (i := 686) (by decide +kernel), List.mem_of_getElem? (i := 687) (by decide +kernel)⟩
theorem lw_p47 : lw_okq (⟨"java/lang/Throwable", "fillInStackTrace", "(I)Ljava/lang/Throwable;"⟩, 6) := ⟨⟨by decide +kernel, by decide +kernel⟩, List.mem_of_getElem? (i := 752) (by decide +kernel), List.mem_of_getElem? (i := 750) (by decide +kernel), List.mem_of_getElem? (i := 751) (by decide +kernel)⟩
def lw_privs_3 : List (MethodName × Nat) := [(⟨"ChordGrammars$Chart", "offer", "(IJ)Z"⟩, 7), (⟨"ChordGrammars$Chart", "addParts", "(IIII)V"⟩, 7), (⟨"ChordGrammars$Chart", "listed", "()I"⟩, 7), (⟨"ChordGrammars$Chart", "wholeRow", "()I"⟩, 7), (⟨"ChordGrammars$Chart", "countOfAll", "()J"⟩, 7), (⟨"ChordGrammars", "isListed", "(I)Z"⟩, 8), (⟨"ChordGrammars$Chart", "priceOfWhole", "(I)I"⟩, 7), (⟨"ChordGrammars", "treeOf", "(I)LChordGrammars$Tree;"⟩, 8), (⟨"ChordGrammars$Tree", "walk", "(LChordGrammars$Chart;I)V"⟩, 13), (⟨"ChordGrammars$Tree", "push", "(IIII)V"⟩, 13), (⟨"ChordGrammars$Tree", "visit", "(LChordGrammars$Chart;II)V"⟩, 13), (⟨"ChordGrammars$Tree", "pushParts", "(LChordGrammars$Grammar;JII)V"⟩, 13), (⟨"ChordGrammars$Chart", "hasSlot", "(I)Z"⟩, 7), (⟨"ChordGrammars$Tree", "degreeAt", "(I)I"⟩, 13), (⟨"ChordGrammars$Chart", "pitchAt", "(I)I"⟩, 7), (⟨"java/lang/Throwable", "fillInStackTrace", "(I)Ljava/lang/Throwable;"⟩, 6)]
theorem lw_r3 : ∀ q ∈ lw_privs_3, lw_okq q := List.forall_mem_cons.mpr ⟨lw_p32, List.forall_mem_cons.mpr ⟨lw_p33, List.forall_mem_cons.mpr ⟨lw_p34, List.forall_mem_cons.mpr ⟨lw_p35, List.forall_mem_cons.mpr ⟨lw_p36, List.forall_mem_cons.mpr ⟨lw_p37, List.forall_mem_cons.mpr ⟨lw_p38, List.forall_mem_cons.mpr ⟨lw_p39, List.forall_mem_cons.mpr ⟨lw_p40, List.forall_mem_cons.mpr ⟨lw_p41, List.forall_mem_cons.mpr ⟨lw_p42, List.forall_mem_cons.mpr ⟨lw_p43, List.forall_mem_cons.mpr ⟨lw_p44, List.forall_mem_cons.mpr ⟨lw_p45, List.forall_mem_cons.mpr ⟨lw_p46, List.forall_mem_cons.mpr ⟨lw_p47, fun _ h => absurd h List.not_mem_nil⟩⟩⟩⟩⟩⟩⟩⟩⟩⟩⟩⟩⟩⟩⟩⟩
theorem lw_p48 : lw_okq (⟨"ChordGrammarsModel", "blanks", "()V"⟩, 48) := ⟨⟨by decide +kernel, by decide +kernel⟩, List.mem_of_getElem? (i := 785) (by decide +kernel), List.mem_of_getElem? (i := 959) (by decide +kernel), List.mem_of_getElem? (i := 960) (by decide +kernel)⟩
theorem lw_p49 : lw_okq (⟨"ChordGrammarsModel", "here", "()I"⟩, 48) := ⟨⟨by decide +kernel, by decide +kernel⟩, List.mem_of_getElem? (i := 785) (by decide +kernel), List.mem_of_getElem? (i := 963) (by decide +kernel), List.mem_of_getElem? (i := 964) (by decide +kernel)⟩
theorem lw_p50 : lw_okq (⟨"ChordGrammarsModel", "stop", "(I)V"⟩, 48) := ⟨⟨by decide +kernel, by decide +kernel⟩, List.mem_of_getElem? (i := 785) (by decide +kernel), List.mem_of_getElem? (i := 967) (by decide +kernel), List.mem_of_getElem? (i := 968) (by decide +kernel)⟩
theorem lw_p51 : lw_okq (⟨"ChordGrammarsModel", "rule", "()V"⟩, 48) := ⟨⟨by decide +kernel, by decide +kernel⟩, List.mem_of_getElem? (i := 785) (by decide +kernel), List.mem_of_getElem? (i := 971) (by decide +kernel), List.mem_of_getElem? (i := 972) (by decide +kernel)⟩
theorem lw_p52 : lw_okq (⟨"ChordGrammarsModel", "isItem", "()Z"⟩, 48) := ⟨⟨by decide +kernel, by decide +kernel⟩, List.mem_of_getElem? (i := 785) (by decide +kernel), List.mem_of_getElem? (i := 978) (by decide +kernel), List.mem_of_getElem? (i := 979) (by decide +kernel)⟩
theorem lw_p53 : lw_okq (⟨"ChordGrammarsModel", "item", "()I"⟩, 48) := ⟨⟨by decide +kernel, by decide +kernel⟩, List.mem_of_getElem? (i := 785) (by decide +kernel), List.mem_of_getElem? (i := 985) (by decide +kernel), List.mem_of_getElem? (i := 986) (by decide +kernel)⟩
theorem lw_p54 : lw_okq (⟨"ChordGrammarsModel", "figures", "()I"⟩, 48) := ⟨⟨by decide +kernel, by decide +kernel⟩, List.mem_of_getElem? (i := 785) (by decide +kernel), List.mem_of_getElem? (i := 992) (by decide +kernel), List.mem_of_getElem? (i := 993) (by decide +kernel)⟩
theorem lw_p55 : lw_okq (⟨"ChordGrammarsModel", "findRings", "()V"⟩, 48) := ⟨⟨by decide +kernel, by decide +kernel⟩, List.mem_of_getElem? (i := 785) (by decide +kernel), List.mem_of_getElem? (i := 996) (by decide +kernel), List.mem_of_getElem? (i := 997) (by decide +kernel)⟩
theorem lw_p56 : lw_okq (⟨"ChordGrammarsModel", "isUnary", "(I)Z"⟩, 48) := ⟨⟨by decide +kernel, by decide +kernel⟩, List.mem_of_getElem? (i := 785) (by decide +kernel), List.mem_of_getElem? (i := 1000) (by decide +kernel), List.mem_of_getElem? (i := 1001) (by decide +kernel)⟩
theorem lw_p57 : lw_okq (⟨"ChordGrammarsModel", "fits", "(III)I"⟩, 48) := ⟨⟨by decide +kernel, by decide +kernel⟩, List.mem_of_getElem? (i := 785) (by decide +kernel), List.mem_of_getElem? (i := 1016) (by decide +kernel), List.mem_of_getElem? (i := 1017) (by decide +kernel)⟩
theorem lw_p58 : lw_okq (⟨"ChordGrammarsModel", "readSymbols", "()V"⟩, 48) := ⟨⟨by decide +kernel, by decide +kernel⟩, List.mem_of_getElem? (i := 785) (by decide +kernel), List.mem_of_getElem? (i := 1037) (by decide +kernel), List.mem_of_getElem? (i := 1038) (by decide +kernel)⟩
theorem lw_p59 : lw_okq (⟨"ChordGrammarsModel", "degree", "(I)I"⟩, 48) := ⟨⟨by decide +kernel, by decide +kernel⟩, List.mem_of_getElem? (i := 785) (by decide +kernel), List.mem_of_getElem? (i := 1041) (by decide +kernel), List.mem_of_getElem? (i := 1042) (by decide +kernel)⟩
theorem lw_p60 : lw_okq (⟨"ChordGrammarsModel", "order", "()V"⟩, 48) := ⟨⟨by decide +kernel, by decide +kernel⟩, List.mem_of_getElem? (i := 785) (by decide +kernel), List.mem_of_getElem? (i := 1045) (by decide +kernel), List.mem_of_getElem? (i := 1046) (by decide +kernel)⟩
theorem lw_p61 : lw_okq (⟨"ChordGrammarsModel", "nameAt", "(I)I"⟩, 48) := ⟨⟨by decide +kernel, by decide +kernel⟩, List.mem_of_getElem? (i := 785) (by decide +kernel), List.mem_of_getElem? (i := 1049) (by decide +kernel), List.mem_of_getElem? (i := 1050) (by decide +kernel)⟩
theorem lw_p62 : lw_okq (⟨"ChordGrammarsModel", "one", "(IIII)V"⟩, 48) := ⟨⟨by decide +kernel, by decide +kernel⟩, List.mem_of_getElem? (i := 785) (by decide +kernel), List.mem_of_getElem? (i := 1056) (by decide +kernel), List.mem_of_getElem? (i := 1057) (by decide +kernel)⟩
theorem lw_p63 : lw_okq (⟨"ChordGrammarsModel", "itemSize", "(III)I"⟩, 48) := ⟨⟨by decide +kernel, by decide +kernel⟩, List.mem_of_getElem? (i := 785) (by decide +kernel), List.mem_of_getElem? (i := 1060) (by decide +kernel), List.mem_of_getElem? (i := 1061) (by decide +kernel)⟩
def lw_privs_4 : List (MethodName × Nat) := [(⟨"ChordGrammarsModel", "blanks", "()V"⟩, 48), (⟨"ChordGrammarsModel", "here", "()I"⟩, 48), (⟨"ChordGrammarsModel", "stop", "(I)V"⟩, 48), (⟨"ChordGrammarsModel", "rule", "()V"⟩, 48), (⟨"ChordGrammarsModel", "isItem", "()Z"⟩, 48), (⟨"ChordGrammarsModel", "item", "()I"⟩, 48), (⟨"ChordGrammarsModel", "figures", "()I"⟩, 48), (⟨"ChordGrammarsModel", "findRings", "()V"⟩, 48), (⟨"ChordGrammarsModel", "isUnary", "(I)Z"⟩, 48), (⟨"ChordGrammarsModel", "fits", "(III)I"⟩, 48), (⟨"ChordGrammarsModel", "readSymbols", "()V"⟩, 48), (⟨"ChordGrammarsModel", "degree", "(I)I"⟩, 48), (⟨"ChordGrammarsModel", "order", "()V"⟩, 48), (⟨"ChordGrammarsModel", "nameAt", "(I)I"⟩, 48), (⟨"ChordGrammarsModel", "one", "(IIII)V"⟩, 48), (⟨"ChordGrammarsModel", "itemSize", "(III)I"⟩, 48)]
theorem lw_r4 : ∀ q ∈ lw_privs_4, lw_okq q := List.forall_mem_cons.mpr ⟨lw_p48, List.forall_mem_cons.mpr ⟨lw_p49, List.forall_mem_cons.mpr ⟨lw_p50, List.forall_mem_cons.mpr ⟨lw_p51, List.forall_mem_cons.mpr ⟨lw_p52, List.forall_mem_cons.mpr ⟨lw_p53, List.forall_mem_cons.mpr ⟨lw_p54, List.forall_mem_cons.mpr ⟨lw_p55, List.forall_mem_cons.mpr ⟨lw_p56, List.forall_mem_cons.mpr ⟨lw_p57, List.forall_mem_cons.mpr ⟨lw_p58, List.forall_mem_cons.mpr ⟨lw_p59, List.forall_mem_cons.mpr ⟨lw_p60, List.forall_mem_cons.mpr ⟨lw_p61, List.forall_mem_cons.mpr ⟨lw_p62, List.forall_mem_cons.mpr ⟨lw_p63, fun _ h => absurd h List.not_mem_nil⟩⟩⟩⟩⟩⟩⟩⟩⟩⟩⟩⟩⟩⟩⟩⟩
theorem lw_p64 : lw_okq (⟨"ChordGrammarsModel", "itemCount", "(III)J"⟩, 48) := ⟨⟨by decide +kernel, by decide +kernel⟩, List.mem_of_getElem? (i := 785) (by decide +kernel), List.mem_of_getElem? (i := 1064) (by decide +kernel), List.mem_of_getElem? (i := 1065) (by decide +kernel)⟩
theorem lw_p65 : lw_okq (⟨"ChordGrammarsModel", "itemCost", "(IIII)I"⟩, 48) := ⟨⟨by decide +kernel, by decide +kernel⟩, List.mem_of_getElem? (i := 785) (by decide +kernel), List.mem_of_getElem? (i := 1068) (by decide +kernel), List.mem_of_getElem? (i := 1069) (by decide +kernel)⟩
theorem lw_p66 : lw_okq (⟨"ChordGrammarsModel", "comes", "(III)Z"⟩, 48) := ⟨⟨by decide +kernel, by decide +kernel⟩, List.mem_of_getElem? (i := 785) (by decide +kernel), List.mem_of_getElem? (i := 1072) (by decide +kernel), List.mem_of_getElem? (i := 1073) (by decide +kernel)⟩
theorem lw_p67 : lw_okq (⟨"ChordGrammarsModel", "two", "(IIII)V"⟩, 48) := ⟨⟨by decide +kernel, by decide +kernel⟩, List.mem_of_getElem? (i := 785) (by decide +kernel), List.mem_of_getElem? (i := 1076) (by decide +kernel), List.mem_of_getElem? (i := 1077) (by decide +kernel)⟩
theorem lw_p68 : lw_okq (⟨"ChordGrammarsModel", "listed", "()I"⟩, 48) := ⟨⟨by decide +kernel, by decide +kernel⟩, List.mem_of_getElem? (i := 785) (by decide +kernel), List.mem_of_getElem? (i := 1080) (by decide +kernel), List.mem_of_getElem? (i := 1081) (by decide +kernel)⟩
theorem lw_p69 : lw_okq (⟨"ChordGrammarsModel", "topCell", "()I"⟩, 48) := ⟨⟨by decide +kernel, by decide +kernel⟩, List.mem_of_getElem? (i := 785) (by decide +kernel), List.mem_of_getElem? (i := 1084) (by decide +kernel), List.mem_of_getElem? (i := 1085) (by decide +kernel)⟩
theorem lw_p70 : lw_okq (⟨"ChordGrammarsModel", "noReading", "(I)Z"⟩, 48) := ⟨⟨by decide +kernel, by decide +kernel⟩, List.mem_of_getElem? (i := 785) (by decide +kernel), List.mem_of_getElem? (i := 1096) (by decide +kernel), List.mem_of_getElem? (i := 1097) (by decide +kernel)⟩
theorem lw_p71 : lw_okq (⟨"ChordGrammarsModel", "begin", "(I)V"⟩, 48) := ⟨⟨by decide +kernel, by decide +kernel⟩, List.mem_of_getElem? (i := 785) (by decide +kernel), List.mem_of_getElem? (i := 1104) (by decide +kernel), List.mem_of_getElem? (i := 1105) (by decide +kernel)⟩
theorem lw_p72 : lw_okq (⟨"ChordGrammarsModel", "later", "(IIII)V"⟩, 48) := ⟨⟨by decide +kernel, by decide +kernel⟩, List.mem_of_getElem? (i := 785) (by decide +kernel), List.mem_of_getElem? (i := 1108) (by decide +kernel), List.mem_of_getElem? (i := 1109) (by decide +kernel)⟩
theorem lw_p73 : lw_okq (⟨"ChordGrammarsModel", "next", "()Z"⟩, 48) := ⟨⟨by decide +kernel, by decide +kernel⟩, List.mem_of_getElem? (i := 785) (by decide +kernel), List.mem_of_getElem? (i := 1112) (by decide +kernel), List.mem_of_getElem? (i := 1113) (by decide +kernel)⟩
theorem lw_p74 : lw_okq (⟨"ChordGrammarsModel", "nodeChord", "()I"⟩, 48) := ⟨⟨by decide +kernel, by decide +kernel⟩, List.mem_of_getElem? (i := 785) (by decide +kernel), List.mem_of_getElem? (i := 1116) (by decide +kernel), List.mem_of_getElem? (i := 1117) (by decide +kernel)⟩
theorem lw_p75 : lw_okq (⟨"ChordGrammarsModel", "symbolAt", "(II)I"⟩, 48) := ⟨⟨by decide +kernel, by decide +kernel⟩, List.mem_of_getElem? (i := 785) (by decide +kernel), List.mem_of_getElem? (i := 1128) (by decide +kernel), List.mem_of_getElem? (i := 1129) (by decide +kernel)⟩
def lw_privs_5 : List (MethodName × Nat) := [(⟨"ChordGrammarsModel", "itemCount", "(III)J"⟩, 48), (⟨"ChordGrammarsModel", "itemCost", "(IIII)I"⟩, 48), (⟨"ChordGrammarsModel", "comes", "(III)Z"⟩, 48), (⟨"ChordGrammarsModel", "two", "(IIII)V"⟩, 48), (⟨"ChordGrammarsModel", "listed", "()I"⟩, 48), (⟨"ChordGrammarsModel", "topCell", "()I"⟩, 48), (⟨"ChordGrammarsModel", "noReading", "(I)Z"⟩, 48), (⟨"ChordGrammarsModel", "begin", "(I)V"⟩, 48), (⟨"ChordGrammarsModel", "later", "(IIII)V"⟩, 48), (⟨"ChordGrammarsModel", "next", "()Z"⟩, 48), (⟨"ChordGrammarsModel", "nodeChord", "()I"⟩, 48), (⟨"ChordGrammarsModel", "symbolAt", "(II)I"⟩, 48)]
theorem lw_r5 : ∀ q ∈ lw_privs_5, lw_okq q := List.forall_mem_cons.mpr ⟨lw_p64, List.forall_mem_cons.mpr ⟨lw_p65, List.forall_mem_cons.mpr ⟨lw_p66, List.forall_mem_cons.mpr ⟨lw_p67, List.forall_mem_cons.mpr ⟨lw_p68, List.forall_mem_cons.mpr ⟨lw_p69, List.forall_mem_cons.mpr ⟨lw_p70, List.forall_mem_cons.mpr ⟨lw_p71, List.forall_mem_cons.mpr ⟨lw_p72, List.forall_mem_cons.mpr ⟨lw_p73, List.forall_mem_cons.mpr ⟨lw_p74, List.forall_mem_cons.mpr ⟨lw_p75, fun _ h => absurd h List.not_mem_nil⟩⟩⟩⟩⟩⟩⟩⟩⟩⟩⟩⟩
def lw_privs : List (MethodName × Nat) := lw_privs_1 ++ (lw_privs_2 ++ (lw_privs_3 ++ (lw_privs_4 ++ (lw_privs_5))))
def lw_tbl : List Cond := k2_sels lw_privs ++ tables_1
theorem lw_privs_ok : ∀ q ∈ lw_privs, lw_okq q := by
  show ∀ q ∈ lw_privs_1 ++ (lw_privs_2 ++ (lw_privs_3 ++ (lw_privs_4 ++ (lw_privs_5)))), lw_okq q
  exact List.forall_mem_append.mpr ⟨lw_r1, List.forall_mem_append.mpr ⟨lw_r2, List.forall_mem_append.mpr ⟨lw_r3, List.forall_mem_append.mpr ⟨lw_r4, lw_r5⟩⟩⟩⟩
-- ===== end of PART A; then your names; then what follows =====
end
section
/-! ===== BEGIN words of one list among another's, by their places ===== -/
theorem goodIn_r {big : List Cond} (ws : List Cond) (ps : List Nat) (hp : ws = ps.filterMap (fun i => big[i]?)) (h : ws.all goodWord = true) : GoodIn big ws := by
  intro w hw
  have h1 := List.all_eq_true.mp h w hw
  rw [hp] at hw
  obtain ⟨i, -, hi⟩ := List.mem_filterMap.mp hw
  have hm : w ∈ big := by first | exact List.mem_of_getElem? hi | exact List.getElem?_mem hi
  exact ⟨hm, good_of_word h1⟩
theorem goodIn_app {big a b : List Cond} (ha : GoodIn big a) (hb : GoodIn big b) : GoodIn big (a ++ b) := fun w h => (List.mem_append.mp h).elim (ha w) (hb w)
theorem goodIn_ca {big a b : List Cond} {c : Cond} (ha : GoodIn big (c :: a)) (hb : GoodIn big b) : GoodIn big (c :: (a ++ b)) := fun w h => (List.mem_cons.mp h).elim (fun e => ha w (List.mem_cons.mpr (Or.inl e))) (fun h => (List.mem_append.mp h).elim (fun h => ha w (List.mem_cons.mpr (Or.inr h))) (hb w))
theorem goodIn_sub {big ws : List Cond} (hm : ∀ w ∈ ws, w ∈ big) (h : ws.all goodWord = true) : GoodIn big ws := fun w hw => ⟨hm w hw, good_of_word (List.all_eq_true.mp h w hw)⟩
/-! ===== END ===== -/

/-! ===== BEGIN printed: names, fields, word lists, decode rows ===== -/
def RX0 : String := "ChordGrammars$Chart"
def TX0 : u_T := fun k => match k with
  | 0 => ("ChordGrammars$Chart", "grammar", "LChordGrammars$Grammar;", true)
  | 1 => ("ChordGrammars$Chart", "symbols", "LChordGrammars$Symbols;", true)
  | 2 => ("ChordGrammars$Chart", "pitches", "[I", true)
  | 3 => ("ChordGrammars$Chart", "counts", "[J", true)
  | 4 => ("ChordGrammars$Chart", "sizes", "[I", true)
  | 5 => ("ChordGrammars$Chart", "least", "[J", true)
  | _ => ("ChordGrammars$Chart", "slots", "I", false)
def tyX0 : Nat → FieldType := fun k => match k with
  | 0 => .object "ChordGrammars$Grammar"
  | 1 => .object "ChordGrammars$Symbols"
  | 2 => .array .int
  | 3 => .array .long
  | 4 => .array .int
  | 5 => .array .long
  | _ => .int
abbrev wsX00 : List Cond := u_ws RX0 TX0 7
theorem nmX0 : ∀ a, a < 7 → ∀ b, b < 7 → a ≠ b → (TX0 a).2.1 ≠ (TX0 b).2.1 := by decide +kernel
theorem tyX0_ok : ∀ k, k < 7 → parseFieldDescriptor (TX0 k).2.2.1 = some (tyX0 k) := by decide +kernel
abbrev cX0_init : ByteArray := prog_2_method_1_code
def yX0_init : MethodName := ⟨RX0, "<init>", "()V"⟩
abbrev cX0_listAll : ByteArray := prog_2_method_2_code
def yX0_listAll : MethodName := ⟨RX0, "listAll", "(LChordGrammars$Grammar;LChordGrammars$Slots;LChordGrammars$Key;LChordGrammars$Tariff;)V"⟩
abbrev cX0_fillSpan : ByteArray := prog_2_method_3_code
def yX0_fillSpan : MethodName := ⟨RX0, "fillSpan", "(II)V"⟩
abbrev cX0_addWhole : ByteArray := prog_2_method_4_code
def yX0_addWhole : MethodName := ⟨RX0, "addWhole", "(III)V"⟩
abbrev cX0_addParts : ByteArray := prog_2_method_5_code
def yX0_addParts : MethodName := ⟨RX0, "addParts", "(IIII)V"⟩
abbrev cX0_offer : ByteArray := prog_2_method_6_code
def yX0_offer : MethodName := ⟨RX0, "offer", "(IJ)Z"⟩
abbrev cX0_listed : ByteArray := prog_2_method_7_code
def yX0_listed : MethodName := ⟨RX0, "listed", "()I"⟩
abbrev cX0_countOfAll : ByteArray := prog_2_method_8_code
def yX0_countOfAll : MethodName := ⟨RX0, "countOfAll", "()J"⟩
abbrev cX0_priceOfWhole : ByteArray := prog_2_method_9_code
def yX0_priceOfWhole : MethodName := ⟨RX0, "priceOfWhole", "(I)I"⟩
abbrev cX0_wholeRow : ByteArray := prog_2_method_10_code
def yX0_wholeRow : MethodName := ⟨RX0, "wholeRow", "()I"⟩
abbrev cX0_pitchAt : ByteArray := prog_2_method_11_code
def yX0_pitchAt : MethodName := ⟨RX0, "pitchAt", "(I)I"⟩
abbrev cX0_hasSlot : ByteArray := prog_2_method_12_code
def yX0_hasSlot : MethodName := ⟨RX0, "hasSlot", "(I)Z"⟩
abbrev cX0_sizeOf : ByteArray := prog_2_method_13_code
def yX0_sizeOf : MethodName := ⟨RX0, "sizeOf", "(III)I"⟩
abbrev cX0_countOf : ByteArray := prog_2_method_14_code
def yX0_countOf : MethodName := ⟨RX0, "countOf", "(III)J"⟩
abbrev cX0_priceOf : ByteArray := prog_2_method_15_code
def yX0_priceOf : MethodName := ⟨RX0, "priceOf", "(IIII)I"⟩
abbrev cX0_chordOf : ByteArray := prog_2_method_16_code
def yX0_chordOf : MethodName := ⟨RX0, "chordOf", "(II)I"⟩
abbrev cX0_entryAt : ByteArray := prog_2_method_17_code
def yX0_entryAt : MethodName := ⟨RX0, "entryAt", "(IIII)J"⟩
abbrev cX0_rowOf : ByteArray := prog_2_method_18_code
def yX0_rowOf : MethodName := ⟨RX0, "rowOf", "(III)I"⟩
abbrev cX0_entryOf : ByteArray := prog_2_method_19_code
def yX0_entryOf : MethodName := ⟨RX0, "entryOf", "(IIIII)J"⟩
abbrev cX0_ruleOf : ByteArray := prog_2_method_20_code
def yX0_ruleOf : MethodName := ⟨RX0, "ruleOf", "(J)I"⟩
abbrev cX0_partOf : ByteArray := prog_2_method_21_code
def yX0_partOf : MethodName := ⟨RX0, "partOf", "(J)I"⟩
abbrev cX0_rankOneOf : ByteArray := prog_2_method_22_code
def yX0_rankOneOf : MethodName := ⟨RX0, "rankOneOf", "(J)I"⟩
abbrev cX0_rankTwoOf : ByteArray := prog_2_method_23_code
def yX0_rankTwoOf : MethodName := ⟨RX0, "rankTwoOf", "(J)I"⟩
def RX1 : String := "ChordGrammars$Draft"
def TX1 : u_T := fun k => match k with
  | 0 => ("ChordGrammars$Draft", "octets", "[B", true)
  | _ => ("ChordGrammars$Draft", "size", "I", false)
def tyX1 : Nat → FieldType := fun k => match k with
  | 0 => .array .byte
  | _ => .int
abbrev wsX10 : List Cond := u_ws RX1 TX1 2
theorem nmX1 : ∀ a, a < 2 → ∀ b, b < 2 → a ≠ b → (TX1 a).2.1 ≠ (TX1 b).2.1 := by decide +kernel
theorem tyX1_ok : ∀ k, k < 2 → parseFieldDescriptor (TX1 k).2.2.1 = some (tyX1 k) := by decide +kernel
abbrev cX1_init : ByteArray := prog_3_method_1_code
def yX1_init : MethodName := ⟨RX1, "<init>", "()V"⟩
abbrev cX1_extend : ByteArray := prog_3_method_2_code
def yX1_extend : MethodName := ⟨RX1, "extend", "(IJ)I"⟩
abbrev cX1_octetAt : ByteArray := prog_3_method_3_code
def yX1_octetAt : MethodName := ⟨RX1, "octetAt", "(I)I"⟩
def RX2 : String := "ChordGrammars$Grammar"
def TX2 : u_T := fun k => match k with
  | 0 => ("ChordGrammars$Grammar", "lefts", "[I", true)
  | 1 => ("ChordGrammars$Grammar", "ones", "[I", true)
  | 2 => ("ChordGrammars$Grammar", "twos", "[I", true)
  | 3 => ("ChordGrammars$Grammar", "costs", "[I", true)
  | 4 => ("ChordGrammars$Grammar", "order", "[I", true)
  | _ => ("ChordGrammars$Grammar", "rules", "I", false)
def tyX2 : Nat → FieldType := fun k => match k with
  | 0 => .array .int
  | 1 => .array .int
  | 2 => .array .int
  | 3 => .array .int
  | 4 => .array .int
  | _ => .int
abbrev wsX20 : List Cond := u_ws RX2 TX2 6
theorem nmX2 : ∀ a, a < 6 → ∀ b, b < 6 → a ≠ b → (TX2 a).2.1 ≠ (TX2 b).2.1 := by decide +kernel
theorem tyX2_ok : ∀ k, k < 6 → parseFieldDescriptor (TX2 k).2.2.1 = some (tyX2 k) := by decide +kernel
abbrev cX2_init : ByteArray := prog_4_method_1_code
def yX2_init : MethodName := ⟨RX2, "<init>", "()V"⟩
abbrev cX2_become : ByteArray := prog_4_method_2_code
def yX2_become : MethodName := ⟨RX2, "become", "(LChordGrammars$Grammar;)V"⟩
abbrev cX2_renames : ByteArray := prog_4_method_3_code
def yX2_renames : MethodName := ⟨RX2, "renames", "(I)Z"⟩
def RX3 : String := "ChordGrammars$Key"
def TX3 : u_T := fun k => match k with
  | 0 => ("ChordGrammars$Key", "tonic", "I", false)
  | _ => ("ChordGrammars$Key", "isMinor", "Z", false)
def tyX3 : Nat → FieldType := fun k => match k with
  | 0 => .int
  | _ => .boolean
abbrev wsX30 : List Cond := u_ws RX3 TX3 2
theorem nmX3 : ∀ a, a < 2 → ∀ b, b < 2 → a ≠ b → (TX3 a).2.1 ≠ (TX3 b).2.1 := by decide +kernel
theorem tyX3_ok : ∀ k, k < 2 → parseFieldDescriptor (TX3 k).2.2.1 = some (tyX3 k) := by decide +kernel
abbrev cX3_init : ByteArray := prog_5_method_1_code
def yX3_init : MethodName := ⟨RX3, "<init>", "()V"⟩
abbrev cX3_change : ByteArray := prog_5_method_2_code
def yX3_change : MethodName := ⟨RX3, "change", "(IZ)Z"⟩
abbrev cX3_rootOf : ByteArray := prog_5_method_3_code
def yX3_rootOf : MethodName := ⟨RX3, "rootOf", "(I)I"⟩
def RX4 : String := "ChordGrammars$Reader"
def TX4 : u_T := fun k => match k with
  | 0 => ("ChordGrammars$Reader", "found", "LChordGrammars$Grammar;", true)
  | 1 => ("ChordGrammars$Reader", "leftPlaces", "[I", true)
  | 2 => ("ChordGrammars$Reader", "reach", "[I", true)
  | _ => ("ChordGrammars$Reader", "place", "I", false)
def tyX4 : Nat → FieldType := fun k => match k with
  | 0 => .object "ChordGrammars$Grammar"
  | 1 => .array .int
  | 2 => .array .int
  | _ => .int
abbrev wsX40 : List Cond := u_ws RX4 TX4 4
theorem nmX4 : ∀ a, a < 4 → ∀ b, b < 4 → a ≠ b → (TX4 a).2.1 ≠ (TX4 b).2.1 := by decide +kernel
theorem tyX4_ok : ∀ k, k < 4 → parseFieldDescriptor (TX4 k).2.2.1 = some (tyX4 k) := by decide +kernel
abbrev cX4_init : ByteArray := prog_6_method_1_code
def yX4_init : MethodName := ⟨RX4, "<init>", "()V"⟩
abbrev cX4_readAll : ByteArray := prog_6_method_2_code
def yX4_readAll : MethodName := ⟨RX4, "readAll", "(LChordGrammars$Draft;)I"⟩
abbrev cX4_readRule : ByteArray := prog_6_method_3_code
def yX4_readRule : MethodName := ⟨RX4, "readRule", "(LChordGrammars$Draft;)Z"⟩
abbrev cX4_readItem : ByteArray := prog_6_method_4_code
def yX4_readItem : MethodName := ⟨RX4, "readItem", "(LChordGrammars$Draft;)I"⟩
abbrev cX4_readCost : ByteArray := prog_6_method_5_code
def yX4_readCost : MethodName := ⟨RX4, "readCost", "(LChordGrammars$Draft;)I"⟩
abbrev cX4_takes : ByteArray := prog_6_method_6_code
def yX4_takes : MethodName := ⟨RX4, "takes", "(LChordGrammars$Draft;I)Z"⟩
abbrev cX4_nextOctet : ByteArray := prog_6_method_7_code
def yX4_nextOctet : MethodName := ⟨RX4, "nextOctet", "(LChordGrammars$Draft;)I"⟩
abbrev cX4_isName : ByteArray := prog_6_method_8_code
def yX4_isName : MethodName := ⟨RX4, "isName", "(I)Z"⟩
abbrev cX4_isFigure : ByteArray := prog_6_method_9_code
def yX4_isFigure : MethodName := ⟨RX4, "isFigure", "(I)Z"⟩
abbrev cX4_kindOf : ByteArray := prog_6_method_10_code
def yX4_kindOf : MethodName := ⟨RX4, "kindOf", "(I)I"⟩
abbrev cX4_findReach : ByteArray := prog_6_method_11_code
def yX4_findReach : MethodName := ⟨RX4, "findReach", "()V"⟩
abbrev cX4_reaches : ByteArray := prog_6_method_12_code
def yX4_reaches : MethodName := ⟨RX4, "reaches", "(II)Z"⟩
abbrev cX4_ringPlace : ByteArray := prog_6_method_13_code
def yX4_ringPlace : MethodName := ⟨RX4, "ringPlace", "()I"⟩
abbrev cX4_arrange : ByteArray := prog_6_method_14_code
def yX4_arrange : MethodName := ⟨RX4, "arrange", "()V"⟩
def RX5 : String := "ChordGrammars$Slots"
def TX5 : u_T := fun k => match k with
  | 0 => ("ChordGrammars$Slots", "sets", "[I", true)
  | 1 => ("ChordGrammars$Slots", "basses", "[I", true)
  | 2 => ("ChordGrammars$Slots", "pitches", "[I", true)
  | _ => ("ChordGrammars$Slots", "count", "I", false)
def tyX5 : Nat → FieldType := fun k => match k with
  | 0 => .array .int
  | 1 => .array .int
  | 2 => .array .int
  | _ => .int
abbrev wsX50 : List Cond := u_ws RX5 TX5 4
theorem nmX5 : ∀ a, a < 4 → ∀ b, b < 4 → a ≠ b → (TX5 a).2.1 ≠ (TX5 b).2.1 := by decide +kernel
theorem tyX5_ok : ∀ k, k < 4 → parseFieldDescriptor (TX5 k).2.2.1 = some (tyX5 k) := by decide +kernel
abbrev cX5_init : ByteArray := prog_7_method_1_code
def yX5_init : MethodName := ⟨RX5, "<init>", "()V"⟩
abbrev cX5_has : ByteArray := prog_7_method_2_code
def yX5_has : MethodName := ⟨RX5, "has", "(I)Z"⟩
abbrev cX5_add : ByteArray := prog_7_method_3_code
def yX5_add : MethodName := ⟨RX5, "add", "(III)I"⟩
def RX6 : String := "ChordGrammars$Symbols"
def TX6 : u_T := fun k => match k with
  | 0 => ("ChordGrammars$Symbols", "chords", "[I", true)
  | _ => ("ChordGrammars$Symbols", "prices", "[I", true)
def tyX6 : Nat → FieldType := fun k => match k with
  | 0 => .array .int
  | _ => .array .int
abbrev wsX60 : List Cond := u_ws RX6 TX6 2
theorem nmX6 : ∀ a, a < 2 → ∀ b, b < 2 → a ≠ b → (TX6 a).2.1 ≠ (TX6 b).2.1 := by decide +kernel
theorem tyX6_ok : ∀ k, k < 2 → parseFieldDescriptor (TX6 k).2.2.1 = some (tyX6 k) := by decide +kernel
abbrev cX6_init : ByteArray := prog_8_method_1_code
def yX6_init : MethodName := ⟨RX6, "<init>", "()V"⟩
abbrev cX6_fill : ByteArray := prog_8_method_2_code
def yX6_fill : MethodName := ⟨RX6, "fill", "(LChordGrammars$Slots;LChordGrammars$Key;LChordGrammars$Tariff;)V"⟩
abbrev cX6_fillDegree : ByteArray := prog_8_method_3_code
def yX6_fillDegree : MethodName := ⟨RX6, "fillDegree", "(LChordGrammars$Slots;IIILChordGrammars$Tariff;)V"⟩
def RX7 : String := "ChordGrammars$Tariff"
def TX7 : u_T := fun k => match k with
  | _ => ("ChordGrammars$Tariff", "costs", "[I", true)
def tyX7 : Nat → FieldType := fun k => match k with
  | _ => .array .int
abbrev wsX70 : List Cond := u_ws RX7 TX7 1
theorem nmX7 : ∀ a, a < 1 → ∀ b, b < 1 → a ≠ b → (TX7 a).2.1 ≠ (TX7 b).2.1 := by decide +kernel
theorem tyX7_ok : ∀ k, k < 1 → parseFieldDescriptor (TX7 k).2.2.1 = some (tyX7 k) := by decide +kernel
abbrev cX7_init : ByteArray := prog_9_method_1_code
def yX7_init : MethodName := ⟨RX7, "<init>", "()V"⟩
abbrev cX7_change : ByteArray := prog_9_method_2_code
def yX7_change : MethodName := ⟨RX7, "change", "(II)Z"⟩
abbrev cX7_ofFit : ByteArray := prog_9_method_3_code
def yX7_ofFit : MethodName := ⟨RX7, "ofFit", "(IIII)I"⟩
abbrev cX7_ofBass : ByteArray := prog_9_method_4_code
def yX7_ofBass : MethodName := ⟨RX7, "ofBass", "(III)I"⟩
abbrev cX7_cheapest : ByteArray := prog_9_method_5_code
def yX7_cheapest : MethodName := ⟨RX7, "cheapest", "(II)I"⟩
def RX8 : String := "ChordGrammars$Tree"
def TX8 : u_T := fun k => match k with
  | 0 => ("ChordGrammars$Tree", "reading", "I", false)
  | 1 => ("ChordGrammars$Tree", "count", "I", false)
  | 2 => ("ChordGrammars$Tree", "rules", "[I", true)
  | 3 => ("ChordGrammars$Tree", "firsts", "[I", true)
  | 4 => ("ChordGrammars$Tree", "lasts", "[I", true)
  | 5 => ("ChordGrammars$Tree", "chords", "[I", true)
  | 6 => ("ChordGrammars$Tree", "slotChords", "[I", true)
  | 7 => ("ChordGrammars$Tree", "slotDegrees", "[I", true)
  | 8 => ("ChordGrammars$Tree", "waitingItems", "[I", true)
  | 9 => ("ChordGrammars$Tree", "waitingFirsts", "[I", true)
  | 10 => ("ChordGrammars$Tree", "waitingLasts", "[I", true)
  | 11 => ("ChordGrammars$Tree", "waitingRanks", "[I", true)
  | _ => ("ChordGrammars$Tree", "waiting", "I", false)
def tyX8 : Nat → FieldType := fun k => match k with
  | 0 => .int
  | 1 => .int
  | 2 => .array .int
  | 3 => .array .int
  | 4 => .array .int
  | 5 => .array .int
  | 6 => .array .int
  | 7 => .array .int
  | 8 => .array .int
  | 9 => .array .int
  | 10 => .array .int
  | 11 => .array .int
  | _ => .int
abbrev wsX80 : List Cond := u_ws RX8 TX8 13
theorem nmX8 : ∀ a, a < 13 → ∀ b, b < 13 → a ≠ b → (TX8 a).2.1 ≠ (TX8 b).2.1 := by decide +kernel
theorem tyX8_ok : ∀ k, k < 13 → parseFieldDescriptor (TX8 k).2.2.1 = some (tyX8 k) := by decide +kernel
abbrev cX8_init : ByteArray := prog_10_method_1_code
def yX8_init : MethodName := ⟨RX8, "<init>", "()V"⟩
abbrev cX8_walk : ByteArray := prog_10_method_2_code
def yX8_walk : MethodName := ⟨RX8, "walk", "(LChordGrammars$Chart;I)V"⟩
abbrev cX8_visit : ByteArray := prog_10_method_3_code
def yX8_visit : MethodName := ⟨RX8, "visit", "(LChordGrammars$Chart;II)V"⟩
abbrev cX8_pushParts : ByteArray := prog_10_method_4_code
def yX8_pushParts : MethodName := ⟨RX8, "pushParts", "(LChordGrammars$Grammar;JII)V"⟩
abbrev cX8_push : ByteArray := prog_10_method_5_code
def yX8_push : MethodName := ⟨RX8, "push", "(IIII)V"⟩
abbrev cX8_degreeAt : ByteArray := prog_10_method_6_code
def yX8_degreeAt : MethodName := ⟨RX8, "degreeAt", "(I)I"⟩
def RX9 : String := "ChordGrammars"
def TX9 : u_T := fun k => match k with
  | 0 => ("ChordGrammars", "key", "LChordGrammars$Key;", true)
  | 1 => ("ChordGrammars", "tariff", "LChordGrammars$Tariff;", true)
  | 2 => ("ChordGrammars", "slots", "LChordGrammars$Slots;", true)
  | 3 => ("ChordGrammars", "draft", "LChordGrammars$Draft;", true)
  | 4 => ("ChordGrammars", "grammar", "LChordGrammars$Grammar;", true)
  | 5 => ("ChordGrammars", "reader", "LChordGrammars$Reader;", true)
  | 6 => ("ChordGrammars", "chart", "LChordGrammars$Chart;", true)
  | _ => ("ChordGrammars", "tree", "LChordGrammars$Tree;", true)
def tyX9 : Nat → FieldType := fun k => match k with
  | 0 => .object "ChordGrammars$Key"
  | 1 => .object "ChordGrammars$Tariff"
  | 2 => .object "ChordGrammars$Slots"
  | 3 => .object "ChordGrammars$Draft"
  | 4 => .object "ChordGrammars$Grammar"
  | 5 => .object "ChordGrammars$Reader"
  | 6 => .object "ChordGrammars$Chart"
  | _ => .object "ChordGrammars$Tree"
abbrev wsX90 : List Cond := u_ws RX9 TX9 8
theorem nmX9 : ∀ a, a < 8 → ∀ b, b < 8 → a ≠ b → (TX9 a).2.1 ≠ (TX9 b).2.1 := by decide +kernel
theorem tyX9_ok : ∀ k, k < 8 → parseFieldDescriptor (TX9 k).2.2.1 = some (tyX9 k) := by decide +kernel
abbrev cX9_init : ByteArray := prog_1_method_1_code
def yX9_init : MethodName := ⟨RX9, "<init>", "()V"⟩
abbrev cX9_key : ByteArray := prog_1_method_2_code
def yX9_key : MethodName := ⟨RX9, "key", "(IZ)Z"⟩
abbrev cX9_cost : ByteArray := prog_1_method_3_code
def yX9_cost : MethodName := ⟨RX9, "cost", "(II)Z"⟩
abbrev cX9_draft : ByteArray := prog_1_method_4_code
def yX9_draft : MethodName := ⟨RX9, "draft", "(IJ)I"⟩
abbrev cX9_grammar : ByteArray := prog_1_method_5_code
def yX9_grammar : MethodName := ⟨RX9, "grammar", "()I"⟩
abbrev cX9_slot : ByteArray := prog_1_method_6_code
def yX9_slot : MethodName := ⟨RX9, "slot", "(III)I"⟩
abbrev cX9_clear : ByteArray := prog_1_method_7_code
def yX9_clear : MethodName := ⟨RX9, "clear", "()I"⟩
abbrev cX9_fit : ByteArray := prog_1_method_8_code
def yX9_fit : MethodName := ⟨RX9, "fit", "(III)I"⟩
abbrev cX9_best : ByteArray := prog_1_method_9_code
def yX9_best : MethodName := ⟨RX9, "best", "(I)I"⟩
abbrev cX9_parse : ByteArray := prog_1_method_10_code
def yX9_parse : MethodName := ⟨RX9, "parse", "()I"⟩
abbrev cX9_readings : ByteArray := prog_1_method_11_code
def yX9_readings : MethodName := ⟨RX9, "readings", "()J"⟩
abbrev cX9_price : ByteArray := prog_1_method_12_code
def yX9_price : MethodName := ⟨RX9, "price", "(I)I"⟩
abbrev cX9_node : ByteArray := prog_1_method_13_code
def yX9_node : MethodName := ⟨RX9, "node", "(III)I"⟩
abbrev cX9_nodes : ByteArray := prog_1_method_14_code
def yX9_nodes : MethodName := ⟨RX9, "nodes", "(I)I"⟩
abbrev cX9_chord : ByteArray := prog_1_method_15_code
def yX9_chord : MethodName := ⟨RX9, "chord", "(II)I"⟩
abbrev cX9_cadence : ByteArray := prog_1_method_16_code
def yX9_cadence : MethodName := ⟨RX9, "cadence", "(I)I"⟩
abbrev cX9_melody : ByteArray := prog_1_method_17_code
def yX9_melody : MethodName := ⟨RX9, "melody", "(II)I"⟩
abbrev cX9_cell : ByteArray := prog_1_method_18_code
def yX9_cell : MethodName := ⟨RX9, "cell", "(III)J"⟩
abbrev cX9_told : ByteArray := prog_1_method_19_code
def yX9_told : MethodName := ⟨RX9, "told", "(I)I"⟩
abbrev cX9_isListed : ByteArray := prog_1_method_20_code
def yX9_isListed : MethodName := ⟨RX9, "isListed", "(I)Z"⟩
abbrev cX9_treeOf : ByteArray := prog_1_method_21_code
def yX9_treeOf : MethodName := ⟨RX9, "treeOf", "(I)LChordGrammars$Tree;"⟩
abbrev cX9_chordSet : ByteArray := prog_1_method_22_code
def yX9_chordSet : MethodName := ⟨RX9, "chordSet", "(II)I"⟩
abbrev cX9_ending : ByteArray := prog_1_method_23_code
def yX9_ending : MethodName := ⟨RX9, "ending", "(II)I"⟩
abbrev cX9_strangerNote : ByteArray := prog_1_method_24_code
def yX9_strangerNote : MethodName := ⟨RX9, "strangerNote", "(III)I"⟩
abbrev cX9_isStep : ByteArray := prog_1_method_25_code
def yX9_isStep : MethodName := ⟨RX9, "isStep", "(I)Z"⟩
abbrev cX9_isLeap : ByteArray := prog_1_method_26_code
def yX9_isLeap : MethodName := ⟨RX9, "isLeap", "(I)Z"⟩
def RX10 : String := "ChordGrammarsModel"
def TX10 : u_T := fun k => match k with
  | 0 => ("ChordGrammarsModel", "thrown", "I", false)
  | 1 => ("ChordGrammarsModel", "tonic", "I", false)
  | 2 => ("ChordGrammarsModel", "minor", "Z", false)
  | 3 => ("ChordGrammarsModel", "costs", "[I", true)
  | 4 => ("ChordGrammarsModel", "draft", "[I", true)
  | 5 => ("ChordGrammarsModel", "drafted", "I", false)
  | 6 => ("ChordGrammarsModel", "slots", "I", false)
  | 7 => ("ChordGrammarsModel", "sets", "[I", true)
  | 8 => ("ChordGrammarsModel", "basses", "[I", true)
  | 9 => ("ChordGrammarsModel", "melodies", "[I", true)
  | 10 => ("ChordGrammarsModel", "rules", "I", false)
  | 11 => ("ChordGrammarsModel", "left", "[I", true)
  | 12 => ("ChordGrammarsModel", "first", "[I", true)
  | 13 => ("ChordGrammarsModel", "second", "[I", true)
  | 14 => ("ChordGrammarsModel", "ruleCost", "[I", true)
  | 15 => ("ChordGrammarsModel", "newRules", "I", false)
  | 16 => ("ChordGrammarsModel", "newLeft", "[I", true)
  | 17 => ("ChordGrammarsModel", "newFirst", "[I", true)
  | 18 => ("ChordGrammarsModel", "newSecond", "[I", true)
  | 19 => ("ChordGrammarsModel", "newCost", "[I", true)
  | 20 => ("ChordGrammarsModel", "newPlace", "[I", true)
  | 21 => ("ChordGrammarsModel", "place", "I", false)
  | 22 => ("ChordGrammarsModel", "fault", "I", false)
  | 23 => ("ChordGrammarsModel", "leads", "[Z", true)
  | 24 => ("ChordGrammarsModel", "n", "I", false)
  | 25 => ("ChordGrammarsModel", "parsedRules", "I", false)
  | 26 => ("ChordGrammarsModel", "pLeft", "[I", true)
  | 27 => ("ChordGrammarsModel", "pFirst", "[I", true)
  | 28 => ("ChordGrammarsModel", "pSecond", "[I", true)
  | 29 => ("ChordGrammarsModel", "pCost", "[I", true)
  | 30 => ("ChordGrammarsModel", "pMelody", "[I", true)
  | 31 => ("ChordGrammarsModel", "symbolChord", "[I", true)
  | 32 => ("ChordGrammarsModel", "symbolCost", "[I", true)
  | 33 => ("ChordGrammarsModel", "sizes", "[I", true)
  | 34 => ("ChordGrammarsModel", "counts", "[J", true)
  | 35 => ("ChordGrammarsModel", "listCost", "[I", true)
  | 36 => ("ChordGrammarsModel", "listKey", "[I", true)
  | 37 => ("ChordGrammarsModel", "turn", "[I", true)
  | 38 => ("ChordGrammarsModel", "parsed", "Z", false)
  | 39 => ("ChordGrammarsModel", "toItem", "[I", true)
  | 40 => ("ChordGrammarsModel", "toFrom", "[I", true)
  | 41 => ("ChordGrammarsModel", "toLast", "[I", true)
  | 42 => ("ChordGrammarsModel", "toRank", "[I", true)
  | 43 => ("ChordGrammarsModel", "waiting", "I", false)
  | 44 => ("ChordGrammarsModel", "nodeItem", "I", false)
  | 45 => ("ChordGrammarsModel", "nodeFrom", "I", false)
  | 46 => ("ChordGrammarsModel", "nodeLast", "I", false)
  | _ => ("ChordGrammarsModel", "nodeRule", "I", false)
def tyX10 : Nat → FieldType := fun k => match k with
  | 0 => .int
  | 1 => .int
  | 2 => .boolean
  | 3 => .array .int
  | 4 => .array .int
  | 5 => .int
  | 6 => .int
  | 7 => .array .int
  | 8 => .array .int
  | 9 => .array .int
  | 10 => .int
  | 11 => .array .int
  | 12 => .array .int
  | 13 => .array .int
  | 14 => .array .int
  | 15 => .int
  | 16 => .array .int
  | 17 => .array .int
  | 18 => .array .int
  | 19 => .array .int
  | 20 => .array .int
  | 21 => .int
  | 22 => .int
  | 23 => .array .boolean
  | 24 => .int
  | 25 => .int
  | 26 => .array .int
  | 27 => .array .int
  | 28 => .array .int
  | 29 => .array .int
  | 30 => .array .int
  | 31 => .array .int
  | 32 => .array .int
  | 33 => .array .int
  | 34 => .array .long
  | 35 => .array .int
  | 36 => .array .int
  | 37 => .array .int
  | 38 => .boolean
  | 39 => .array .int
  | 40 => .array .int
  | 41 => .array .int
  | 42 => .array .int
  | 43 => .int
  | 44 => .int
  | 45 => .int
  | 46 => .int
  | _ => .int
abbrev wsX100 : List Cond := u_ws RX10 TX10 48
theorem nmX10 : ∀ a, a < 48 → ∀ b, b < 48 → a ≠ b → (TX10 a).2.1 ≠ (TX10 b).2.1 := by decide +kernel
theorem tyX10_ok : ∀ k, k < 48 → parseFieldDescriptor (TX10 k).2.2.1 = some (tyX10 k) := by decide +kernel
abbrev cX10_init : ByteArray := prog_12_method_1_code
def yX10_init : MethodName := ⟨RX10, "<init>", "()V"⟩
abbrev cX10_thrown : ByteArray := prog_12_method_2_code
def yX10_thrown : MethodName := ⟨RX10, "thrown", "()I"⟩
abbrev cX10_key : ByteArray := prog_12_method_3_code
def yX10_key : MethodName := ⟨RX10, "key", "(IZ)Z"⟩
abbrev cX10_cost : ByteArray := prog_12_method_4_code
def yX10_cost : MethodName := ⟨RX10, "cost", "(II)Z"⟩
abbrev cX10_draft : ByteArray := prog_12_method_5_code
def yX10_draft : MethodName := ⟨RX10, "draft", "(IJ)I"⟩
abbrev cX10_here : ByteArray := prog_12_method_6_code
def yX10_here : MethodName := ⟨RX10, "here", "()I"⟩
abbrev cX10_blanks : ByteArray := prog_12_method_7_code
def yX10_blanks : MethodName := ⟨RX10, "blanks", "()V"⟩
abbrev cX10_stop : ByteArray := prog_12_method_8_code
def yX10_stop : MethodName := ⟨RX10, "stop", "(I)V"⟩
abbrev cX10_isName : ByteArray := prog_12_method_9_code
def yX10_isName : MethodName := ⟨RX10, "isName", "(I)Z"⟩
abbrev cX10_isDegree : ByteArray := prog_12_method_10_code
def yX10_isDegree : MethodName := ⟨RX10, "isDegree", "(I)Z"⟩
abbrev cX10_kindOf : ByteArray := prog_12_method_11_code
def yX10_kindOf : MethodName := ⟨RX10, "kindOf", "(I)I"⟩
abbrev cX10_item : ByteArray := prog_12_method_12_code
def yX10_item : MethodName := ⟨RX10, "item", "()I"⟩
abbrev cX10_isItem : ByteArray := prog_12_method_13_code
def yX10_isItem : MethodName := ⟨RX10, "isItem", "()Z"⟩
abbrev cX10_figures : ByteArray := prog_12_method_14_code
def yX10_figures : MethodName := ⟨RX10, "figures", "()I"⟩
abbrev cX10_rule : ByteArray := prog_12_method_15_code
def yX10_rule : MethodName := ⟨RX10, "rule", "()V"⟩
abbrev cX10_isUnary : ByteArray := prog_12_method_16_code
def yX10_isUnary : MethodName := ⟨RX10, "isUnary", "(I)Z"⟩
abbrev cX10_findRings : ByteArray := prog_12_method_17_code
def yX10_findRings : MethodName := ⟨RX10, "findRings", "()V"⟩
abbrev cX10_grammar : ByteArray := prog_12_method_18_code
def yX10_grammar : MethodName := ⟨RX10, "grammar", "()I"⟩
abbrev cX10_slot : ByteArray := prog_12_method_19_code
def yX10_slot : MethodName := ⟨RX10, "slot", "(III)I"⟩
abbrev cX10_clear : ByteArray := prog_12_method_20_code
def yX10_clear : MethodName := ⟨RX10, "clear", "()I"⟩
abbrev cX10_shape : ByteArray := prog_12_method_21_code
def yX10_shape : MethodName := ⟨RX10, "shape", "(I)I"⟩
abbrev cX10_classes : ByteArray := prog_12_method_22_code
def yX10_classes : MethodName := ⟨RX10, "classes", "(II)I"⟩
abbrev cX10_many : ByteArray := prog_12_method_23_code
def yX10_many : MethodName := ⟨RX10, "many", "(I)I"⟩
abbrev cX10_fits : ByteArray := prog_12_method_24_code
def yX10_fits : MethodName := ⟨RX10, "fits", "(III)I"⟩
abbrev cX10_fit : ByteArray := prog_12_method_25_code
def yX10_fit : MethodName := ⟨RX10, "fit", "(III)I"⟩
abbrev cX10_best : ByteArray := prog_12_method_26_code
def yX10_best : MethodName := ⟨RX10, "best", "(I)I"⟩
abbrev cX10_degree : ByteArray := prog_12_method_27_code
def yX10_degree : MethodName := ⟨RX10, "degree", "(I)I"⟩
abbrev cX10_readSymbols : ByteArray := prog_12_method_28_code
def yX10_readSymbols : MethodName := ⟨RX10, "readSymbols", "()V"⟩
abbrev cX10_cellOf : ByteArray := prog_12_method_29_code
def yX10_cellOf : MethodName := ⟨RX10, "cellOf", "(III)I"⟩
abbrev cX10_itemSize : ByteArray := prog_12_method_30_code
def yX10_itemSize : MethodName := ⟨RX10, "itemSize", "(III)I"⟩
abbrev cX10_itemCount : ByteArray := prog_12_method_31_code
def yX10_itemCount : MethodName := ⟨RX10, "itemCount", "(III)J"⟩
abbrev cX10_itemCost : ByteArray := prog_12_method_32_code
def yX10_itemCost : MethodName := ⟨RX10, "itemCost", "(IIII)I"⟩
abbrev cX10_comes : ByteArray := prog_12_method_33_code
def yX10_comes : MethodName := ⟨RX10, "comes", "(III)Z"⟩
abbrev cX10_one : ByteArray := prog_12_method_34_code
def yX10_one : MethodName := ⟨RX10, "one", "(IIII)V"⟩
abbrev cX10_two : ByteArray := prog_12_method_35_code
def yX10_two : MethodName := ⟨RX10, "two", "(IIII)V"⟩
abbrev cX10_order : ByteArray := prog_12_method_36_code
def yX10_order : MethodName := ⟨RX10, "order", "()V"⟩
abbrev cX10_nameAt : ByteArray := prog_12_method_37_code
def yX10_nameAt : MethodName := ⟨RX10, "nameAt", "(I)I"⟩
abbrev cX10_parse : ByteArray := prog_12_method_38_code
def yX10_parse : MethodName := ⟨RX10, "parse", "()I"⟩
abbrev cX10_topCell : ByteArray := prog_12_method_39_code
def yX10_topCell : MethodName := ⟨RX10, "topCell", "()I"⟩
abbrev cX10_listed : ByteArray := prog_12_method_40_code
def yX10_listed : MethodName := ⟨RX10, "listed", "()I"⟩
abbrev cX10_noReading : ByteArray := prog_12_method_41_code
def yX10_noReading : MethodName := ⟨RX10, "noReading", "(I)Z"⟩
abbrev cX10_readings : ByteArray := prog_12_method_42_code
def yX10_readings : MethodName := ⟨RX10, "readings", "()J"⟩
abbrev cX10_price : ByteArray := prog_12_method_43_code
def yX10_price : MethodName := ⟨RX10, "price", "(I)I"⟩
abbrev cX10_later : ByteArray := prog_12_method_44_code
def yX10_later : MethodName := ⟨RX10, "later", "(IIII)V"⟩
abbrev cX10_begin : ByteArray := prog_12_method_45_code
def yX10_begin : MethodName := ⟨RX10, "begin", "(I)V"⟩
abbrev cX10_next : ByteArray := prog_12_method_46_code
def yX10_next : MethodName := ⟨RX10, "next", "()Z"⟩
abbrev cX10_nodeChord : ByteArray := prog_12_method_47_code
def yX10_nodeChord : MethodName := ⟨RX10, "nodeChord", "()I"⟩
abbrev cX10_node : ByteArray := prog_12_method_48_code
def yX10_node : MethodName := ⟨RX10, "node", "(III)I"⟩
abbrev cX10_nodes : ByteArray := prog_12_method_49_code
def yX10_nodes : MethodName := ⟨RX10, "nodes", "(I)I"⟩
abbrev cX10_symbolAt : ByteArray := prog_12_method_50_code
def yX10_symbolAt : MethodName := ⟨RX10, "symbolAt", "(II)I"⟩
abbrev cX10_chord : ByteArray := prog_12_method_51_code
def yX10_chord : MethodName := ⟨RX10, "chord", "(II)I"⟩
abbrev cX10_cadence : ByteArray := prog_12_method_52_code
def yX10_cadence : MethodName := ⟨RX10, "cadence", "(I)I"⟩
abbrev cX10_isStep : ByteArray := prog_12_method_53_code
def yX10_isStep : MethodName := ⟨RX10, "isStep", "(I)Z"⟩
abbrev cX10_isMore : ByteArray := prog_12_method_54_code
def yX10_isMore : MethodName := ⟨RX10, "isMore", "(I)Z"⟩
abbrev cX10_isTurned : ByteArray := prog_12_method_55_code
def yX10_isTurned : MethodName := ⟨RX10, "isTurned", "(II)Z"⟩
abbrev cX10_melody : ByteArray := prog_12_method_56_code
def yX10_melody : MethodName := ⟨RX10, "melody", "(II)I"⟩
abbrev cX10_cell : ByteArray := prog_12_method_57_code
def yX10_cell : MethodName := ⟨RX10, "cell", "(III)J"⟩
abbrev cX10_told : ByteArray := prog_12_method_58_code
def yX10_told : MethodName := ⟨RX10, "told", "(I)I"⟩
def RJx00060 : String := "java/lang/ArrayIndexOutOfBoundsException"
def TJx00060 : u_T := fun k => match k with
  | 0 => ("java/lang/Throwable", "cause", "Ljava/lang/Throwable;", false)
  | 1 => ("java/lang/Throwable", "stackTrace", "[Ljava/lang/StackTraceElement;", false)
  | 2 => ("java/lang/Throwable", "suppressedExceptions", "Ljava/util/List;", false)
  | 3 => ("java/lang/Throwable", "detailMessage", "Ljava/lang/String;", false)
  | 4 => ("java/lang/Throwable", "backtrace", "Ljava/lang/Object;", false)
  | _ => ("java/lang/Throwable", "depth", "I", false)
def tyJx00060 : Nat → FieldType := fun k => match k with
  | 0 => .object "java/lang/Throwable"
  | 1 => .array (.object "java/lang/StackTraceElement")
  | 2 => .object "java/util/List"
  | 3 => .object "java/lang/String"
  | 4 => .object "java/lang/Object"
  | _ => .int
abbrev wsJx000600 : List Cond := u_ws RJx00060 TJx00060 6
theorem nmJx00060 : ∀ a, a < 6 → ∀ b, b < 6 → a ≠ b → (TJx00060 a).2.1 ≠ (TJx00060 b).2.1 := by decide +kernel
theorem tyJx00060_ok : ∀ k, k < 6 → parseFieldDescriptor (TJx00060 k).2.2.1 = some (tyJx00060 k) := by decide +kernel
abbrev cJx00060_init_a7421 : ByteArray := prog_13_method_2_code
def yJx00060_init_a7421 : MethodName := ⟨RJx00060, "<init>", "(Ljava/lang/String;)V"⟩
def RJ11 : String := "java/lang/Character"
def TJ11 : u_T := fun k => match k with
  | _ => ("", "", "", false)
def tyJ11 : Nat → FieldType := fun k => match k with
  | _ => .int
abbrev wsJ110 : List Cond := u_ws RJ11 TJ11 0
theorem nmJ11 : ∀ a, a < 0 → ∀ b, b < 0 → a ≠ b → (TJ11 a).2.1 ≠ (TJ11 b).2.1 := by decide +kernel
theorem tyJ11_ok : ∀ k, k < 0 → parseFieldDescriptor (TJ11 k).2.2.1 = some (tyJ11 k) := by decide +kernel
abbrev cJ11_isValidCodePoint_9a6ad : ByteArray := prog_14_method_11_code
def yJ11_isValidCodePoint_9a6ad : MethodName := ⟨RJ11, "isValidCodePoint", "(I)Z"⟩
abbrev cJ11_highSurrogate_5068e : ByteArray := prog_14_method_28_code
def yJ11_highSurrogate_5068e : MethodName := ⟨RJ11, "highSurrogate", "(I)C"⟩
abbrev cJ11_lowSurrogate_5068e : ByteArray := prog_14_method_29_code
def yJ11_lowSurrogate_5068e : MethodName := ⟨RJ11, "lowSurrogate", "(I)C"⟩
def RJ6 : String := "java/lang/Integer"
def TJ6 : u_T := fun k => match k with
  | _ => ("", "", "", false)
def tyJ6 : Nat → FieldType := fun k => match k with
  | _ => .int
abbrev wsJ60 : List Cond := u_ws RJ6 TJ6 0
theorem nmJ6 : ∀ a, a < 0 → ∀ b, b < 0 → a ≠ b → (TJ6 a).2.1 ≠ (TJ6 b).2.1 := by decide +kernel
theorem tyJ6_ok : ∀ k, k < 0 → parseFieldDescriptor (TJ6 k).2.2.1 = some (tyJ6 k) := by decide +kernel
abbrev cJ6_bitCount_0f7a4 : ByteArray := prog_17_method_49_code
def yJ6_bitCount_0f7a4 : MethodName := ⟨RJ6, "bitCount", "(I)I"⟩
def RJ9 : String := "java/lang/Math"
def TJ9 : u_T := fun k => match k with
  | _ => ("", "", "", false)
def tyJ9 : Nat → FieldType := fun k => match k with
  | _ => .int
abbrev wsJ90 : List Cond := u_ws RJ9 TJ9 0
theorem nmJ9 : ∀ a, a < 0 → ∀ b, b < 0 → a ≠ b → (TJ9 a).2.1 ≠ (TJ9 b).2.1 := by decide +kernel
theorem tyJ9_ok : ∀ k, k < 0 → parseFieldDescriptor (TJ9 k).2.2.1 = some (tyJ9 k) := by decide +kernel
abbrev cJ9_max_7cf53 : ByteArray := prog_18_method_65_code
def yJ9_max_7cf53 : MethodName := ⟨RJ9, "max", "(II)I"⟩
abbrev cJ9_min_7cf53 : ByteArray := prog_18_method_69_code
def yJ9_min_7cf53 : MethodName := ⟨RJ9, "min", "(II)I"⟩
def RJ0 : String := "java/lang/String"
def TJ0 : u_T := fun k => match k with
  | _ => ("", "", "", false)
def tyJ0 : Nat → FieldType := fun k => match k with
  | _ => .int
abbrev wsJ00 : List Cond := u_ws RJ0 TJ0 0
theorem nmJ0 : ∀ a, a < 0 → ∀ b, b < 0 → a ≠ b → (TJ0 a).2.1 ≠ (TJ0 b).2.1 := by decide +kernel
theorem tyJ0_ok : ∀ k, k < 0 → parseFieldDescriptor (TJ0 k).2.2.1 = some (tyJ0 k) := by decide +kernel
abbrev cJ0_length_8abf5 : ByteArray := prog_20_method_54_code
def yJ0_length_8abf5 : MethodName := ⟨RJ0, "length", "()I"⟩
abbrev cJ0_indexOf_0f7a4 : ByteArray := prog_20_method_79_code
def yJ0_indexOf_0f7a4 : MethodName := ⟨RJ0, "indexOf", "(I)I"⟩
abbrev cJ0_indexOf_7cf53 : ByteArray := prog_20_method_80_code
def yJ0_indexOf_7cf53 : MethodName := ⟨RJ0, "indexOf", "(II)I"⟩
abbrev cJ0_coder_7d493 : ByteArray := prog_20_method_152_code
def yJ0_coder_7d493 : MethodName := ⟨RJ0, "coder", "()B"⟩
abbrev cJ0_isLatin1_aae02 : ByteArray := prog_20_method_154_code
def yJ0_isLatin1_aae02 : MethodName := ⟨RJ0, "isLatin1", "()Z"⟩
abbrev cJ0_checkBoundsBeginEnd_23922 : ByteArray := prog_20_method_158_code
def yJ0_checkBoundsBeginEnd_23922 : MethodName := ⟨RJ0, "checkBoundsBeginEnd", "(III)V"⟩
def RJ1 : String := "java/lang/StringLatin1"
def TJ1 : u_T := fun k => match k with
  | _ => ("", "", "", false)
def tyJ1 : Nat → FieldType := fun k => match k with
  | _ => .int
abbrev wsJ10 : List Cond := u_ws RJ1 TJ1 0
theorem nmJ1 : ∀ a, a < 0 → ∀ b, b < 0 → a ≠ b → (TJ1 a).2.1 ≠ (TJ1 b).2.1 := by decide +kernel
theorem tyJ1_ok : ∀ k, k < 0 → parseFieldDescriptor (TJ1 k).2.2.1 = some (tyJ1 k) := by decide +kernel
abbrev cJ1_canEncode_9a6ad : ByteArray := prog_21_method_4_code
def yJ1_canEncode_9a6ad : MethodName := ⟨RJ1, "canEncode", "(I)Z"⟩
abbrev cJ1_indexOf_4cfef : ByteArray := prog_21_method_22_code
def yJ1_indexOf_4cfef : MethodName := ⟨RJ1, "indexOf", "([BIII)I"⟩
abbrev cJ1_indexOfChar_4cfef : ByteArray := prog_21_method_23_code
def yJ1_indexOfChar_4cfef : MethodName := ⟨RJ1, "indexOfChar", "([BIII)I"⟩
def RJ2 : String := "java/lang/StringUTF16"
def TJ2 : u_T := fun k => match k with
  | _ => ("", "", "", false)
def tyJ2 : Nat → FieldType := fun k => match k with
  | _ => .int
abbrev wsJ20 : List Cond := u_ws RJ2 TJ2 0
theorem nmJ2 : ∀ a, a < 0 → ∀ b, b < 0 → a ≠ b → (TJ2 a).2.1 ≠ (TJ2 b).2.1 := by decide +kernel
theorem tyJ2_ok : ∀ k, k < 0 → parseFieldDescriptor (TJ2 k).2.2.1 = some (tyJ2 k) := by decide +kernel
abbrev cJ2_getChar_3b067 : ByteArray := prog_22_method_5_code
def yJ2_getChar_3b067 : MethodName := ⟨RJ2, "getChar", "([BI)C"⟩
abbrev cJ2_length_9d52b : ByteArray := prog_22_method_6_code
def yJ2_length_9d52b : MethodName := ⟨RJ2, "length", "([B)I"⟩
abbrev cJ2_indexOf_4cfef : ByteArray := prog_22_method_40_code
def yJ2_indexOf_4cfef : MethodName := ⟨RJ2, "indexOf", "([BIII)I"⟩
abbrev cJ2_indexOfChar_4cfef : ByteArray := prog_22_method_47_code
def yJ2_indexOfChar_4cfef : MethodName := ⟨RJ2, "indexOfChar", "([BIII)I"⟩
abbrev cJ2_indexOfCharUnsafe_4cfef : ByteArray := prog_22_method_48_code
def yJ2_indexOfCharUnsafe_4cfef : MethodName := ⟨RJ2, "indexOfCharUnsafe", "([BIII)I"⟩
abbrev cJ2_indexOfSupplementary_4cfef : ByteArray := prog_22_method_49_code
def yJ2_indexOfSupplementary_4cfef : MethodName := ⟨RJ2, "indexOfSupplementary", "([BIII)I"⟩
abbrev cJ2_checkBoundsBeginEnd_d044e : ByteArray := prog_22_method_93_code
def yJ2_checkBoundsBeginEnd_d044e : MethodName := ⟨RJ2, "checkBoundsBeginEnd", "(II[B)V"⟩
def RJ10 : String := "java/lang/System"
def TJ10 : u_T := fun k => match k with
  | _ => ("", "", "", false)
def tyJ10 : Nat → FieldType := fun k => match k with
  | _ => .int
abbrev wsJ100 : List Cond := u_ws RJ10 TJ10 0
theorem nmJ10 : ∀ a, a < 0 → ∀ b, b < 0 → a ≠ b → (TJ10 a).2.1 ≠ (TJ10 b).2.1 := by decide +kernel
theorem tyJ10_ok : ∀ k, k < 0 → parseFieldDescriptor (TJ10 k).2.2.1 = some (tyJ10 k) := by decide +kernel
def RJ3 : String := "jdk/internal/util/Preconditions"
def TJ3 : u_T := fun k => match k with
  | _ => ("", "", "", false)
def tyJ3 : Nat → FieldType := fun k => match k with
  | _ => .int
abbrev wsJ30 : List Cond := u_ws RJ3 TJ3 0
theorem nmJ3 : ∀ a, a < 0 → ∀ b, b < 0 → a ≠ b → (TJ3 a).2.1 ≠ (TJ3 b).2.1 := by decide +kernel
theorem tyJ3_ok : ∀ k, k < 0 → parseFieldDescriptor (TJ3 k).2.2.1 = some (tyJ3 k) := by decide +kernel
abbrev cJ3_checkFromToIndex_8c36e : ByteArray := prog_25_method_12_code
def yJ3_checkFromToIndex_8c36e : MethodName := ⟨RJ3, "checkFromToIndex", "(IIILjava/util/function/BiFunction;)I"⟩
def RL : String := "ChordGrammarsLaw"
abbrev cL_cell : ByteArray := method_3_code
def yL_cell : MethodName := ⟨RL, "cell", "(LChordGrammars;III[J)I"⟩
abbrev cL_law : ByteArray := code
def yL_law : MethodName := ⟨RL, "law", "([I)Z"⟩
abbrev vwCl : List vw_C := [(RJx00060, TJx00060, 6), (RX0, TX0, 7), (RX1, TX1, 2), (RX2, TX2, 6), (RX3, TX3, 2), (RX4, TX4, 4), (RX5, TX5, 4), (RX6, TX6, 2), (RX7, TX7, 1), (RX8, TX8, 13), (RX9, TX9, 8), (RX10, TX10, 48)]
end
section
theorem dX0_init_0 : decode cX0_init 0 = .ok (.aload_n 0, 1) := by decide +kernel
theorem dX0_init_1 : decode cX0_init 1 = .ok (.invokespecial 3, 3) := by decide +kernel
theorem dX0_init_4 : decode cX0_init 4 = .ok (.aload_n 0, 1) := by decide +kernel
theorem dX0_init_5 : decode cX0_init 5 = .ok (.new 9, 3) := by decide +kernel
theorem dX0_init_8 : decode cX0_init 8 = .ok (.dup, 1) := by decide +kernel
theorem dX0_init_9 : decode cX0_init 9 = .ok (.invokespecial 11, 3) := by decide +kernel
theorem dX0_init_12 : decode cX0_init 12 = .ok (.putfield 12, 3) := by decide +kernel
theorem dX0_init_15 : decode cX0_init 15 = .ok (.aload_n 0, 1) := by decide +kernel
theorem dX0_init_16 : decode cX0_init 16 = .ok (.new 18, 3) := by decide +kernel
theorem dX0_init_19 : decode cX0_init 19 = .ok (.dup, 1) := by decide +kernel
theorem dX0_init_20 : decode cX0_init 20 = .ok (.invokespecial 20, 3) := by decide +kernel
theorem dX0_init_23 : decode cX0_init 23 = .ok (.putfield 21, 3) := by decide +kernel
theorem dX0_init_26 : decode cX0_init 26 = .ok (.aload_n 0, 1) := by decide +kernel
theorem dX0_init_27 : decode cX0_init 27 = .ok (.bipush 24, 2) := by decide +kernel
theorem dX0_init_29 : decode cX0_init 29 = .ok (.newarray .int, 2) := by decide +kernel
theorem dX0_init_31 : decode cX0_init 31 = .ok (.putfield 25, 3) := by decide +kernel
theorem dX0_init_34 : decode cX0_init 34 = .ok (.aload_n 0, 1) := by decide +kernel
theorem dX0_init_35 : decode cX0_init 35 = .ok (.sipush 7800, 3) := by decide +kernel
theorem dX0_init_38 : decode cX0_init 38 = .ok (.newarray .long, 2) := by decide +kernel
theorem dX0_init_40 : decode cX0_init 40 = .ok (.putfield 29, 3) := by decide +kernel
theorem dX0_init_43 : decode cX0_init 43 = .ok (.aload_n 0, 1) := by decide +kernel
theorem dX0_init_44 : decode cX0_init 44 = .ok (.sipush 7800, 3) := by decide +kernel
theorem dX0_init_47 : decode cX0_init 47 = .ok (.newarray .int, 2) := by decide +kernel
theorem dX0_init_49 : decode cX0_init 49 = .ok (.putfield 33, 3) := by decide +kernel
theorem dX0_init_52 : decode cX0_init 52 = .ok (.aload_n 0, 1) := by decide +kernel
theorem dX0_init_53 : decode cX0_init 53 = .ok (.ldc 36, 2) := by decide +kernel
theorem dX0_init_55 : decode cX0_init 55 = .ok (.newarray .long, 2) := by decide +kernel
theorem dX0_init_57 : decode cX0_init 57 = .ok (.putfield 37, 3) := by decide +kernel
theorem dX0_init_60 : decode cX0_init 60 = .ok (.aload_n 0, 1) := by decide +kernel
theorem dX0_init_61 : decode cX0_init 61 = .ok (.iconst 0, 1) := by decide +kernel
theorem dX0_init_62 : decode cX0_init 62 = .ok (.putfield 40, 3) := by decide +kernel
theorem dX0_init_65 : decode cX0_init 65 = .ok (.return_, 1) := by decide +kernel
theorem dX0_listAll_0 : decode cX0_listAll 0 = .ok (.aload_n 0, 1) := by decide +kernel
theorem dX0_listAll_1 : decode cX0_listAll 1 = .ok (.getfield 12, 3) := by decide +kernel
theorem dX0_listAll_4 : decode cX0_listAll 4 = .ok (.aload_n 1, 1) := by decide +kernel
theorem dX0_listAll_5 : decode cX0_listAll 5 = .ok (.invokevirtual 44, 3) := by decide +kernel
theorem dX0_listAll_8 : decode cX0_listAll 8 = .ok (.aload_n 0, 1) := by decide +kernel
theorem dX0_listAll_9 : decode cX0_listAll 9 = .ok (.aload_n 2, 1) := by decide +kernel
theorem dX0_listAll_10 : decode cX0_listAll 10 = .ok (.getfield 48, 3) := by decide +kernel
theorem dX0_listAll_13 : decode cX0_listAll 13 = .ok (.putfield 40, 3) := by decide +kernel
theorem dX0_listAll_16 : decode cX0_listAll 16 = .ok (.aload_n 2, 1) := by decide +kernel
theorem dX0_listAll_17 : decode cX0_listAll 17 = .ok (.getfield 53, 3) := by decide +kernel
theorem dX0_listAll_20 : decode cX0_listAll 20 = .ok (.iconst 0, 1) := by decide +kernel
theorem dX0_listAll_21 : decode cX0_listAll 21 = .ok (.aload_n 0, 1) := by decide +kernel
theorem dX0_listAll_22 : decode cX0_listAll 22 = .ok (.getfield 25, 3) := by decide +kernel
theorem dX0_listAll_25 : decode cX0_listAll 25 = .ok (.iconst 0, 1) := by decide +kernel
theorem dX0_listAll_26 : decode cX0_listAll 26 = .ok (.bipush 24, 2) := by decide +kernel
theorem dX0_listAll_28 : decode cX0_listAll 28 = .ok (.invokestatic 54, 3) := by decide +kernel
theorem dX0_listAll_31 : decode cX0_listAll 31 = .ok (.aload_n 0, 1) := by decide +kernel
theorem dX0_listAll_32 : decode cX0_listAll 32 = .ok (.getfield 21, 3) := by decide +kernel
theorem dX0_listAll_35 : decode cX0_listAll 35 = .ok (.aload_n 2, 1) := by decide +kernel
theorem dX0_listAll_36 : decode cX0_listAll 36 = .ok (.aload_n 3, 1) := by decide +kernel
theorem dX0_listAll_37 : decode cX0_listAll 37 = .ok (.aload 4, 2) := by decide +kernel
theorem dX0_listAll_39 : decode cX0_listAll 39 = .ok (.invokevirtual 60, 3) := by decide +kernel
theorem dX0_listAll_42 : decode cX0_listAll 42 = .ok (.iconst 0, 1) := by decide +kernel
theorem dX0_listAll_43 : decode cX0_listAll 43 = .ok (.istore 5, 2) := by decide +kernel
theorem dX0_listAll_45 : decode cX0_listAll 45 = .ok (.iload 5, 2) := by decide +kernel
theorem dX0_listAll_47 : decode cX0_listAll 47 = .ok (.aload_n 0, 1) := by decide +kernel
theorem dX0_listAll_48 : decode cX0_listAll 48 = .ok (.getfield 40, 3) := by decide +kernel
theorem dX0_listAll_51 : decode cX0_listAll 51 = .ok (.if_icmp .ge 32, 3) := by decide +kernel
theorem dX0_listAll_54 : decode cX0_listAll 54 = .ok (.iload 5, 2) := by decide +kernel
theorem dX0_listAll_56 : decode cX0_listAll 56 = .ok (.istore 6, 2) := by decide +kernel
theorem dX0_listAll_58 : decode cX0_listAll 58 = .ok (.iload 6, 2) := by decide +kernel
theorem dX0_listAll_60 : decode cX0_listAll 60 = .ok (.ifCond .lt 17, 3) := by decide +kernel
theorem dX0_listAll_63 : decode cX0_listAll 63 = .ok (.aload_n 0, 1) := by decide +kernel
theorem dX0_listAll_64 : decode cX0_listAll 64 = .ok (.iload 6, 2) := by decide +kernel
theorem dX0_listAll_66 : decode cX0_listAll 66 = .ok (.iload 5, 2) := by decide +kernel
theorem dX0_listAll_68 : decode cX0_listAll 68 = .ok (.invokevirtual 64, 3) := by decide +kernel
theorem dX0_listAll_71 : decode cX0_listAll 71 = .ok (.iinc 6 (-1), 3) := by decide +kernel
theorem dX0_listAll_74 : decode cX0_listAll 74 = .ok (.goto (-16), 3) := by decide +kernel
theorem dX0_listAll_77 : decode cX0_listAll 77 = .ok (.iinc 5 1, 3) := by decide +kernel
theorem dX0_listAll_80 : decode cX0_listAll 80 = .ok (.goto (-35), 3) := by decide +kernel
theorem dX0_listAll_83 : decode cX0_listAll 83 = .ok (.return_, 1) := by decide +kernel
theorem dX0_fillSpan_0 : decode cX0_fillSpan 0 = .ok (.iconst 0, 1) := by decide +kernel
theorem dX0_fillSpan_1 : decode cX0_fillSpan 1 = .ok (.istore_n 3, 1) := by decide +kernel
theorem dX0_fillSpan_2 : decode cX0_fillSpan 2 = .ok (.iload_n 3, 1) := by decide +kernel
theorem dX0_fillSpan_3 : decode cX0_fillSpan 3 = .ok (.bipush 26, 2) := by decide +kernel
theorem dX0_fillSpan_5 : decode cX0_fillSpan 5 = .ok (.if_icmp .ge 33, 3) := by decide +kernel
theorem dX0_fillSpan_8 : decode cX0_fillSpan 8 = .ok (.aload_n 0, 1) := by decide +kernel
theorem dX0_fillSpan_9 : decode cX0_fillSpan 9 = .ok (.getfield 29, 3) := by decide +kernel
theorem dX0_fillSpan_12 : decode cX0_fillSpan 12 = .ok (.iload_n 3, 1) := by decide +kernel
theorem dX0_fillSpan_13 : decode cX0_fillSpan 13 = .ok (.iload_n 1, 1) := by decide +kernel
theorem dX0_fillSpan_14 : decode cX0_fillSpan 14 = .ok (.iload_n 2, 1) := by decide +kernel
theorem dX0_fillSpan_15 : decode cX0_fillSpan 15 = .ok (.invokestatic 68, 3) := by decide +kernel
theorem dX0_fillSpan_18 : decode cX0_fillSpan 18 = .ok (.lconst 0, 1) := by decide +kernel
theorem dX0_fillSpan_19 : decode cX0_fillSpan 19 = .ok (.lastore, 1) := by decide +kernel
theorem dX0_fillSpan_20 : decode cX0_fillSpan 20 = .ok (.aload_n 0, 1) := by decide +kernel
theorem dX0_fillSpan_21 : decode cX0_fillSpan 21 = .ok (.getfield 33, 3) := by decide +kernel
theorem dX0_fillSpan_24 : decode cX0_fillSpan 24 = .ok (.iload_n 3, 1) := by decide +kernel
theorem dX0_fillSpan_25 : decode cX0_fillSpan 25 = .ok (.iload_n 1, 1) := by decide +kernel
theorem dX0_fillSpan_26 : decode cX0_fillSpan 26 = .ok (.iload_n 2, 1) := by decide +kernel
theorem dX0_fillSpan_27 : decode cX0_fillSpan 27 = .ok (.invokestatic 68, 3) := by decide +kernel
theorem dX0_fillSpan_30 : decode cX0_fillSpan 30 = .ok (.iconst 0, 1) := by decide +kernel
theorem dX0_fillSpan_31 : decode cX0_fillSpan 31 = .ok (.iastore, 1) := by decide +kernel
theorem dX0_fillSpan_32 : decode cX0_fillSpan 32 = .ok (.iinc 3 1, 3) := by decide +kernel
theorem dX0_fillSpan_35 : decode cX0_fillSpan 35 = .ok (.goto (-33), 3) := by decide +kernel
theorem dX0_fillSpan_38 : decode cX0_fillSpan 38 = .ok (.iconst 0, 1) := by decide +kernel
theorem dX0_fillSpan_39 : decode cX0_fillSpan 39 = .ok (.istore_n 3, 1) := by decide +kernel
theorem dX0_fillSpan_40 : decode cX0_fillSpan 40 = .ok (.iload_n 3, 1) := by decide +kernel
theorem dX0_fillSpan_41 : decode cX0_fillSpan 41 = .ok (.aload_n 0, 1) := by decide +kernel
theorem dX0_fillSpan_42 : decode cX0_fillSpan 42 = .ok (.getfield 12, 3) := by decide +kernel
theorem dX0_fillSpan_45 : decode cX0_fillSpan 45 = .ok (.getfield 72, 3) := by decide +kernel
theorem dX0_fillSpan_48 : decode cX0_fillSpan 48 = .ok (.if_icmp .ge 72, 3) := by decide +kernel
theorem dX0_fillSpan_51 : decode cX0_fillSpan 51 = .ok (.aload_n 0, 1) := by decide +kernel
theorem dX0_fillSpan_52 : decode cX0_fillSpan 52 = .ok (.getfield 12, 3) := by decide +kernel
theorem dX0_fillSpan_55 : decode cX0_fillSpan 55 = .ok (.getfield 75, 3) := by decide +kernel
theorem dX0_fillSpan_58 : decode cX0_fillSpan 58 = .ok (.iload_n 3, 1) := by decide +kernel
theorem dX0_fillSpan_59 : decode cX0_fillSpan 59 = .ok (.iaload, 1) := by decide +kernel
theorem dX0_fillSpan_60 : decode cX0_fillSpan 60 = .ok (.istore 4, 2) := by decide +kernel
theorem dX0_fillSpan_62 : decode cX0_fillSpan 62 = .ok (.aload_n 0, 1) := by decide +kernel
theorem dX0_fillSpan_63 : decode cX0_fillSpan 63 = .ok (.getfield 12, 3) := by decide +kernel
theorem dX0_fillSpan_66 : decode cX0_fillSpan 66 = .ok (.getfield 78, 3) := by decide +kernel
theorem dX0_fillSpan_69 : decode cX0_fillSpan 69 = .ok (.iload 4, 2) := by decide +kernel
theorem dX0_fillSpan_71 : decode cX0_fillSpan 71 = .ok (.iaload, 1) := by decide +kernel
theorem dX0_fillSpan_72 : decode cX0_fillSpan 72 = .ok (.iconst (-1), 1) := by decide +kernel
theorem dX0_fillSpan_73 : decode cX0_fillSpan 73 = .ok (.if_icmp .ne 14, 3) := by decide +kernel
theorem dX0_fillSpan_76 : decode cX0_fillSpan 76 = .ok (.aload_n 0, 1) := by decide +kernel
theorem dX0_fillSpan_77 : decode cX0_fillSpan 77 = .ok (.iload 4, 2) := by decide +kernel
theorem dX0_fillSpan_79 : decode cX0_fillSpan 79 = .ok (.iload_n 1, 1) := by decide +kernel
theorem dX0_fillSpan_80 : decode cX0_fillSpan 80 = .ok (.iload_n 2, 1) := by decide +kernel
theorem dX0_fillSpan_81 : decode cX0_fillSpan 81 = .ok (.invokevirtual 81, 3) := by decide +kernel
theorem dX0_fillSpan_84 : decode cX0_fillSpan 84 = .ok (.goto 30, 3) := by decide +kernel
theorem dX0_fillSpan_87 : decode cX0_fillSpan 87 = .ok (.iconst 1, 1) := by decide +kernel
theorem dX0_fillSpan_88 : decode cX0_fillSpan 88 = .ok (.istore 5, 2) := by decide +kernel
theorem dX0_fillSpan_90 : decode cX0_fillSpan 90 = .ok (.iload 5, 2) := by decide +kernel
theorem dX0_fillSpan_92 : decode cX0_fillSpan 92 = .ok (.iload_n 2, 1) := by decide +kernel
theorem dX0_fillSpan_93 : decode cX0_fillSpan 93 = .ok (.iload_n 1, 1) := by decide +kernel
theorem dX0_fillSpan_94 : decode cX0_fillSpan 94 = .ok (.isub, 1) := by decide +kernel
theorem dX0_fillSpan_95 : decode cX0_fillSpan 95 = .ok (.if_icmp .gt 19, 3) := by decide +kernel
theorem dX0_fillSpan_98 : decode cX0_fillSpan 98 = .ok (.aload_n 0, 1) := by decide +kernel
theorem dX0_fillSpan_99 : decode cX0_fillSpan 99 = .ok (.iload 4, 2) := by decide +kernel
theorem dX0_fillSpan_101 : decode cX0_fillSpan 101 = .ok (.iload_n 1, 1) := by decide +kernel
theorem dX0_fillSpan_102 : decode cX0_fillSpan 102 = .ok (.iload_n 2, 1) := by decide +kernel
theorem dX0_fillSpan_103 : decode cX0_fillSpan 103 = .ok (.iload 5, 2) := by decide +kernel
theorem dX0_fillSpan_105 : decode cX0_fillSpan 105 = .ok (.invokevirtual 85, 3) := by decide +kernel
theorem dX0_fillSpan_108 : decode cX0_fillSpan 108 = .ok (.iinc 5 1, 3) := by decide +kernel
theorem dX0_fillSpan_111 : decode cX0_fillSpan 111 = .ok (.goto (-21), 3) := by decide +kernel
theorem dX0_fillSpan_114 : decode cX0_fillSpan 114 = .ok (.iinc 3 1, 3) := by decide +kernel
theorem dX0_fillSpan_117 : decode cX0_fillSpan 117 = .ok (.goto (-77), 3) := by decide +kernel
theorem dX0_fillSpan_120 : decode cX0_fillSpan 120 = .ok (.return_, 1) := by decide +kernel
theorem dX0_addWhole_0 : decode cX0_addWhole 0 = .ok (.aload_n 0, 1) := by decide +kernel
theorem dX0_addWhole_1 : decode cX0_addWhole 1 = .ok (.getfield 12, 3) := by decide +kernel
theorem dX0_addWhole_4 : decode cX0_addWhole 4 = .ok (.getfield 89, 3) := by decide +kernel
theorem dX0_addWhole_7 : decode cX0_addWhole 7 = .ok (.iload_n 1, 1) := by decide +kernel
theorem dX0_addWhole_8 : decode cX0_addWhole 8 = .ok (.iaload, 1) := by decide +kernel
theorem dX0_addWhole_9 : decode cX0_addWhole 9 = .ok (.iload_n 2, 1) := by decide +kernel
theorem dX0_addWhole_10 : decode cX0_addWhole 10 = .ok (.iload_n 3, 1) := by decide +kernel
theorem dX0_addWhole_11 : decode cX0_addWhole 11 = .ok (.invokestatic 68, 3) := by decide +kernel
theorem dX0_addWhole_14 : decode cX0_addWhole 14 = .ok (.istore 4, 2) := by decide +kernel
theorem dX0_addWhole_16 : decode cX0_addWhole 16 = .ok (.aload_n 0, 1) := by decide +kernel
theorem dX0_addWhole_17 : decode cX0_addWhole 17 = .ok (.getfield 12, 3) := by decide +kernel
theorem dX0_addWhole_20 : decode cX0_addWhole 20 = .ok (.getfield 92, 3) := by decide +kernel
theorem dX0_addWhole_23 : decode cX0_addWhole 23 = .ok (.iload_n 1, 1) := by decide +kernel
theorem dX0_addWhole_24 : decode cX0_addWhole 24 = .ok (.iaload, 1) := by decide +kernel
theorem dX0_addWhole_25 : decode cX0_addWhole 25 = .ok (.istore 5, 2) := by decide +kernel
theorem dX0_addWhole_27 : decode cX0_addWhole 27 = .ok (.aload_n 0, 1) := by decide +kernel
theorem dX0_addWhole_28 : decode cX0_addWhole 28 = .ok (.iload 5, 2) := by decide +kernel
theorem dX0_addWhole_30 : decode cX0_addWhole 30 = .ok (.iload_n 2, 1) := by decide +kernel
theorem dX0_addWhole_31 : decode cX0_addWhole 31 = .ok (.iload_n 3, 1) := by decide +kernel
theorem dX0_addWhole_32 : decode cX0_addWhole 32 = .ok (.invokevirtual 95, 3) := by decide +kernel
theorem dX0_addWhole_35 : decode cX0_addWhole 35 = .ok (.istore 6, 2) := by decide +kernel
theorem dX0_addWhole_37 : decode cX0_addWhole 37 = .ok (.iload 6, 2) := by decide +kernel
theorem dX0_addWhole_39 : decode cX0_addWhole 39 = .ok (.ifCond .ne 4, 3) := by decide +kernel
theorem dX0_addWhole_42 : decode cX0_addWhole 42 = .ok (.return_, 1) := by decide +kernel
theorem dX0_addWhole_43 : decode cX0_addWhole 43 = .ok (.aload_n 0, 1) := by decide +kernel
theorem dX0_addWhole_44 : decode cX0_addWhole 44 = .ok (.getfield 29, 3) := by decide +kernel
theorem dX0_addWhole_47 : decode cX0_addWhole 47 = .ok (.iload 4, 2) := by decide +kernel
theorem dX0_addWhole_49 : decode cX0_addWhole 49 = .ok (.dup2, 1) := by decide +kernel
theorem dX0_addWhole_50 : decode cX0_addWhole 50 = .ok (.laload, 1) := by decide +kernel
theorem dX0_addWhole_51 : decode cX0_addWhole 51 = .ok (.aload_n 0, 1) := by decide +kernel
theorem dX0_addWhole_52 : decode cX0_addWhole 52 = .ok (.iload 5, 2) := by decide +kernel
theorem dX0_addWhole_54 : decode cX0_addWhole 54 = .ok (.iload_n 2, 1) := by decide +kernel
theorem dX0_addWhole_55 : decode cX0_addWhole 55 = .ok (.iload_n 3, 1) := by decide +kernel
theorem dX0_addWhole_56 : decode cX0_addWhole 56 = .ok (.invokevirtual 98, 3) := by decide +kernel
theorem dX0_addWhole_59 : decode cX0_addWhole 59 = .ok (.ladd, 1) := by decide +kernel
theorem dX0_addWhole_60 : decode cX0_addWhole 60 = .ok (.lastore, 1) := by decide +kernel
theorem dX0_addWhole_61 : decode cX0_addWhole 61 = .ok (.iconst 1, 1) := by decide +kernel
theorem dX0_addWhole_62 : decode cX0_addWhole 62 = .ok (.istore 7, 2) := by decide +kernel
theorem dX0_addWhole_64 : decode cX0_addWhole 64 = .ok (.iconst 0, 1) := by decide +kernel
theorem dX0_addWhole_65 : decode cX0_addWhole 65 = .ok (.istore 8, 2) := by decide +kernel
theorem dX0_addWhole_67 : decode cX0_addWhole 67 = .ok (.iload 8, 2) := by decide +kernel
theorem dX0_addWhole_69 : decode cX0_addWhole 69 = .ok (.iload 6, 2) := by decide +kernel
theorem dX0_addWhole_71 : decode cX0_addWhole 71 = .ok (.if_icmp .ge 54, 3) := by decide +kernel
theorem dX0_addWhole_74 : decode cX0_addWhole 74 = .ok (.iload 7, 2) := by decide +kernel
theorem dX0_addWhole_76 : decode cX0_addWhole 76 = .ok (.ifCond .eq 49, 3) := by decide +kernel
theorem dX0_addWhole_79 : decode cX0_addWhole 79 = .ok (.aload_n 0, 1) := by decide +kernel
theorem dX0_addWhole_80 : decode cX0_addWhole 80 = .ok (.getfield 12, 3) := by decide +kernel
theorem dX0_addWhole_83 : decode cX0_addWhole 83 = .ok (.getfield 102, 3) := by decide +kernel
theorem dX0_addWhole_86 : decode cX0_addWhole 86 = .ok (.iload_n 1, 1) := by decide +kernel
theorem dX0_addWhole_87 : decode cX0_addWhole 87 = .ok (.iaload, 1) := by decide +kernel
theorem dX0_addWhole_88 : decode cX0_addWhole 88 = .ok (.aload_n 0, 1) := by decide +kernel
theorem dX0_addWhole_89 : decode cX0_addWhole 89 = .ok (.iload 5, 2) := by decide +kernel
theorem dX0_addWhole_91 : decode cX0_addWhole 91 = .ok (.iload_n 2, 1) := by decide +kernel
theorem dX0_addWhole_92 : decode cX0_addWhole 92 = .ok (.iload_n 3, 1) := by decide +kernel
theorem dX0_addWhole_93 : decode cX0_addWhole 93 = .ok (.iload 8, 2) := by decide +kernel
theorem dX0_addWhole_95 : decode cX0_addWhole 95 = .ok (.invokevirtual 105, 3) := by decide +kernel
theorem dX0_addWhole_98 : decode cX0_addWhole 98 = .ok (.iadd, 1) := by decide +kernel
theorem dX0_addWhole_99 : decode cX0_addWhole 99 = .ok (.istore 9, 2) := by decide +kernel
theorem dX0_addWhole_101 : decode cX0_addWhole 101 = .ok (.aload_n 0, 1) := by decide +kernel
theorem dX0_addWhole_102 : decode cX0_addWhole 102 = .ok (.iload 4, 2) := by decide +kernel
theorem dX0_addWhole_104 : decode cX0_addWhole 104 = .ok (.iload 9, 2) := by decide +kernel
theorem dX0_addWhole_106 : decode cX0_addWhole 106 = .ok (.iload_n 1, 1) := by decide +kernel
theorem dX0_addWhole_107 : decode cX0_addWhole 107 = .ok (.iconst 0, 1) := by decide +kernel
theorem dX0_addWhole_108 : decode cX0_addWhole 108 = .ok (.iload 8, 2) := by decide +kernel
theorem dX0_addWhole_110 : decode cX0_addWhole 110 = .ok (.iconst 0, 1) := by decide +kernel
theorem dX0_addWhole_111 : decode cX0_addWhole 111 = .ok (.invokestatic 109, 3) := by decide +kernel
theorem dX0_addWhole_114 : decode cX0_addWhole 114 = .ok (.invokevirtual 113, 3) := by decide +kernel
theorem dX0_addWhole_117 : decode cX0_addWhole 117 = .ok (.istore 7, 2) := by decide +kernel
theorem dX0_addWhole_119 : decode cX0_addWhole 119 = .ok (.iinc 8 1, 3) := by decide +kernel
theorem dX0_addWhole_122 : decode cX0_addWhole 122 = .ok (.goto (-55), 3) := by decide +kernel
theorem dX0_addWhole_125 : decode cX0_addWhole 125 = .ok (.return_, 1) := by decide +kernel
theorem dX0_addParts_0 : decode cX0_addParts 0 = .ok (.iload_n 2, 1) := by decide +kernel
theorem dX0_addParts_1 : decode cX0_addParts 1 = .ok (.iload 4, 2) := by decide +kernel
theorem dX0_addParts_3 : decode cX0_addParts 3 = .ok (.iadd, 1) := by decide +kernel
theorem dX0_addParts_4 : decode cX0_addParts 4 = .ok (.istore 5, 2) := by decide +kernel
theorem dX0_addParts_6 : decode cX0_addParts 6 = .ok (.aload_n 0, 1) := by decide +kernel
theorem dX0_addParts_7 : decode cX0_addParts 7 = .ok (.getfield 12, 3) := by decide +kernel
theorem dX0_addParts_10 : decode cX0_addParts 10 = .ok (.getfield 92, 3) := by decide +kernel
theorem dX0_addParts_13 : decode cX0_addParts 13 = .ok (.iload_n 1, 1) := by decide +kernel
theorem dX0_addParts_14 : decode cX0_addParts 14 = .ok (.iaload, 1) := by decide +kernel
theorem dX0_addParts_15 : decode cX0_addParts 15 = .ok (.istore 6, 2) := by decide +kernel
theorem dX0_addParts_17 : decode cX0_addParts 17 = .ok (.aload_n 0, 1) := by decide +kernel
theorem dX0_addParts_18 : decode cX0_addParts 18 = .ok (.getfield 12, 3) := by decide +kernel
theorem dX0_addParts_21 : decode cX0_addParts 21 = .ok (.getfield 78, 3) := by decide +kernel
theorem dX0_addParts_24 : decode cX0_addParts 24 = .ok (.iload_n 1, 1) := by decide +kernel
theorem dX0_addParts_25 : decode cX0_addParts 25 = .ok (.iaload, 1) := by decide +kernel
theorem dX0_addParts_26 : decode cX0_addParts 26 = .ok (.istore 7, 2) := by decide +kernel
theorem dX0_addParts_28 : decode cX0_addParts 28 = .ok (.aload_n 0, 1) := by decide +kernel
theorem dX0_addParts_29 : decode cX0_addParts 29 = .ok (.iload 6, 2) := by decide +kernel
theorem dX0_addParts_31 : decode cX0_addParts 31 = .ok (.iload_n 2, 1) := by decide +kernel
theorem dX0_addParts_32 : decode cX0_addParts 32 = .ok (.iload 5, 2) := by decide +kernel
theorem dX0_addParts_34 : decode cX0_addParts 34 = .ok (.iconst 1, 1) := by decide +kernel
theorem dX0_addParts_35 : decode cX0_addParts 35 = .ok (.isub, 1) := by decide +kernel
theorem dX0_addParts_36 : decode cX0_addParts 36 = .ok (.invokevirtual 95, 3) := by decide +kernel
theorem dX0_addParts_39 : decode cX0_addParts 39 = .ok (.istore 8, 2) := by decide +kernel
theorem dX0_addParts_41 : decode cX0_addParts 41 = .ok (.iload 8, 2) := by decide +kernel
theorem dX0_addParts_43 : decode cX0_addParts 43 = .ok (.ifCond .ne 7, 3) := by decide +kernel
theorem dX0_addParts_46 : decode cX0_addParts 46 = .ok (.iconst 0, 1) := by decide +kernel
theorem dX0_addParts_47 : decode cX0_addParts 47 = .ok (.goto 12, 3) := by decide +kernel
theorem dX0_addParts_50 : decode cX0_addParts 50 = .ok (.aload_n 0, 1) := by decide +kernel
theorem dX0_addParts_51 : decode cX0_addParts 51 = .ok (.iload 7, 2) := by decide +kernel
theorem dX0_addParts_53 : decode cX0_addParts 53 = .ok (.iload 5, 2) := by decide +kernel
theorem dX0_addParts_55 : decode cX0_addParts 55 = .ok (.iload_n 3, 1) := by decide +kernel
theorem dX0_addParts_56 : decode cX0_addParts 56 = .ok (.invokevirtual 95, 3) := by decide +kernel
theorem dX0_addParts_59 : decode cX0_addParts 59 = .ok (.istore 9, 2) := by decide +kernel
theorem dX0_addParts_61 : decode cX0_addParts 61 = .ok (.iload 9, 2) := by decide +kernel
theorem dX0_addParts_63 : decode cX0_addParts 63 = .ok (.ifCond .ne 4, 3) := by decide +kernel
theorem dX0_addParts_66 : decode cX0_addParts 66 = .ok (.return_, 1) := by decide +kernel
theorem dX0_addParts_67 : decode cX0_addParts 67 = .ok (.aload_n 0, 1) := by decide +kernel
theorem dX0_addParts_68 : decode cX0_addParts 68 = .ok (.getfield 12, 3) := by decide +kernel
theorem dX0_addParts_71 : decode cX0_addParts 71 = .ok (.getfield 89, 3) := by decide +kernel
theorem dX0_addParts_74 : decode cX0_addParts 74 = .ok (.iload_n 1, 1) := by decide +kernel
theorem dX0_addParts_75 : decode cX0_addParts 75 = .ok (.iaload, 1) := by decide +kernel
theorem dX0_addParts_76 : decode cX0_addParts 76 = .ok (.iload_n 2, 1) := by decide +kernel
theorem dX0_addParts_77 : decode cX0_addParts 77 = .ok (.iload_n 3, 1) := by decide +kernel
theorem dX0_addParts_78 : decode cX0_addParts 78 = .ok (.invokestatic 68, 3) := by decide +kernel
theorem dX0_addParts_81 : decode cX0_addParts 81 = .ok (.istore 10, 2) := by decide +kernel
theorem dX0_addParts_83 : decode cX0_addParts 83 = .ok (.aload_n 0, 1) := by decide +kernel
theorem dX0_addParts_84 : decode cX0_addParts 84 = .ok (.getfield 29, 3) := by decide +kernel
theorem dX0_addParts_87 : decode cX0_addParts 87 = .ok (.iload 10, 2) := by decide +kernel
theorem dX0_addParts_89 : decode cX0_addParts 89 = .ok (.dup2, 1) := by decide +kernel
theorem dX0_addParts_90 : decode cX0_addParts 90 = .ok (.laload, 1) := by decide +kernel
theorem dX0_addParts_91 : decode cX0_addParts 91 = .ok (.aload_n 0, 1) := by decide +kernel
theorem dX0_addParts_92 : decode cX0_addParts 92 = .ok (.iload 6, 2) := by decide +kernel
theorem dX0_addParts_94 : decode cX0_addParts 94 = .ok (.iload_n 2, 1) := by decide +kernel
theorem dX0_addParts_95 : decode cX0_addParts 95 = .ok (.iload 5, 2) := by decide +kernel
theorem dX0_addParts_97 : decode cX0_addParts 97 = .ok (.iconst 1, 1) := by decide +kernel
theorem dX0_addParts_98 : decode cX0_addParts 98 = .ok (.isub, 1) := by decide +kernel
theorem dX0_addParts_99 : decode cX0_addParts 99 = .ok (.invokevirtual 98, 3) := by decide +kernel
theorem dX0_addParts_102 : decode cX0_addParts 102 = .ok (.aload_n 0, 1) := by decide +kernel
theorem dX0_addParts_103 : decode cX0_addParts 103 = .ok (.iload 7, 2) := by decide +kernel
theorem dX0_addParts_105 : decode cX0_addParts 105 = .ok (.iload 5, 2) := by decide +kernel
theorem dX0_addParts_107 : decode cX0_addParts 107 = .ok (.iload_n 3, 1) := by decide +kernel
theorem dX0_addParts_108 : decode cX0_addParts 108 = .ok (.invokevirtual 98, 3) := by decide +kernel
theorem dX0_addParts_111 : decode cX0_addParts 111 = .ok (.lmul, 1) := by decide +kernel
theorem dX0_addParts_112 : decode cX0_addParts 112 = .ok (.ladd, 1) := by decide +kernel
theorem dX0_addParts_113 : decode cX0_addParts 113 = .ok (.lastore, 1) := by decide +kernel
theorem dX0_addParts_114 : decode cX0_addParts 114 = .ok (.iconst 1, 1) := by decide +kernel
theorem dX0_addParts_115 : decode cX0_addParts 115 = .ok (.istore 11, 2) := by decide +kernel
theorem dX0_addParts_117 : decode cX0_addParts 117 = .ok (.iconst 0, 1) := by decide +kernel
theorem dX0_addParts_118 : decode cX0_addParts 118 = .ok (.istore 12, 2) := by decide +kernel
theorem dX0_addParts_120 : decode cX0_addParts 120 = .ok (.iload 12, 2) := by decide +kernel
theorem dX0_addParts_122 : decode cX0_addParts 122 = .ok (.iload 8, 2) := by decide +kernel
theorem dX0_addParts_124 : decode cX0_addParts 124 = .ok (.if_icmp .ge 114, 3) := by decide +kernel
theorem dX0_addParts_127 : decode cX0_addParts 127 = .ok (.iload 11, 2) := by decide +kernel
theorem dX0_addParts_129 : decode cX0_addParts 129 = .ok (.ifCond .eq 109, 3) := by decide +kernel
theorem dX0_addParts_132 : decode cX0_addParts 132 = .ok (.aload_n 0, 1) := by decide +kernel
theorem dX0_addParts_133 : decode cX0_addParts 133 = .ok (.getfield 12, 3) := by decide +kernel
theorem dX0_addParts_136 : decode cX0_addParts 136 = .ok (.getfield 102, 3) := by decide +kernel
theorem dX0_addParts_139 : decode cX0_addParts 139 = .ok (.iload_n 1, 1) := by decide +kernel
theorem dX0_addParts_140 : decode cX0_addParts 140 = .ok (.iaload, 1) := by decide +kernel
theorem dX0_addParts_141 : decode cX0_addParts 141 = .ok (.aload_n 0, 1) := by decide +kernel
theorem dX0_addParts_142 : decode cX0_addParts 142 = .ok (.iload 6, 2) := by decide +kernel
theorem dX0_addParts_144 : decode cX0_addParts 144 = .ok (.iload_n 2, 1) := by decide +kernel
theorem dX0_addParts_145 : decode cX0_addParts 145 = .ok (.iload 5, 2) := by decide +kernel
theorem dX0_addParts_147 : decode cX0_addParts 147 = .ok (.iconst 1, 1) := by decide +kernel
theorem dX0_addParts_148 : decode cX0_addParts 148 = .ok (.isub, 1) := by decide +kernel
theorem dX0_addParts_149 : decode cX0_addParts 149 = .ok (.iload 12, 2) := by decide +kernel
theorem dX0_addParts_151 : decode cX0_addParts 151 = .ok (.invokevirtual 105, 3) := by decide +kernel
theorem dX0_addParts_154 : decode cX0_addParts 154 = .ok (.iadd, 1) := by decide +kernel
theorem dX0_addParts_155 : decode cX0_addParts 155 = .ok (.istore 13, 2) := by decide +kernel
theorem dX0_addParts_157 : decode cX0_addParts 157 = .ok (.iload 9, 2) := by decide +kernel
theorem dX0_addParts_159 : decode cX0_addParts 159 = .ok (.bipush 30, 2) := by decide +kernel
theorem dX0_addParts_161 : decode cX0_addParts 161 = .ok (.iload 12, 2) := by decide +kernel
theorem dX0_addParts_163 : decode cX0_addParts 163 = .ok (.iconst 1, 1) := by decide +kernel
theorem dX0_addParts_164 : decode cX0_addParts 164 = .ok (.iadd, 1) := by decide +kernel
theorem dX0_addParts_165 : decode cX0_addParts 165 = .ok (.idiv, 1) := by decide +kernel
theorem dX0_addParts_166 : decode cX0_addParts 166 = .ok (.invokestatic 117, 3) := by decide +kernel
theorem dX0_addParts_169 : decode cX0_addParts 169 = .ok (.istore 14, 2) := by decide +kernel
theorem dX0_addParts_171 : decode cX0_addParts 171 = .ok (.iconst 0, 1) := by decide +kernel
theorem dX0_addParts_172 : decode cX0_addParts 172 = .ok (.istore 15, 2) := by decide +kernel
theorem dX0_addParts_174 : decode cX0_addParts 174 = .ok (.iload 15, 2) := by decide +kernel
theorem dX0_addParts_176 : decode cX0_addParts 176 = .ok (.iload 14, 2) := by decide +kernel
theorem dX0_addParts_178 : decode cX0_addParts 178 = .ok (.if_icmp .ge 42, 3) := by decide +kernel
theorem dX0_addParts_181 : decode cX0_addParts 181 = .ok (.aload_n 0, 1) := by decide +kernel
theorem dX0_addParts_182 : decode cX0_addParts 182 = .ok (.iload 10, 2) := by decide +kernel
theorem dX0_addParts_184 : decode cX0_addParts 184 = .ok (.iload 13, 2) := by decide +kernel
theorem dX0_addParts_186 : decode cX0_addParts 186 = .ok (.aload_n 0, 1) := by decide +kernel
theorem dX0_addParts_187 : decode cX0_addParts 187 = .ok (.iload 7, 2) := by decide +kernel
theorem dX0_addParts_189 : decode cX0_addParts 189 = .ok (.iload 5, 2) := by decide +kernel
theorem dX0_addParts_191 : decode cX0_addParts 191 = .ok (.iload_n 3, 1) := by decide +kernel
theorem dX0_addParts_192 : decode cX0_addParts 192 = .ok (.iload 15, 2) := by decide +kernel
theorem dX0_addParts_194 : decode cX0_addParts 194 = .ok (.invokevirtual 105, 3) := by decide +kernel
theorem dX0_addParts_197 : decode cX0_addParts 197 = .ok (.iadd, 1) := by decide +kernel
theorem dX0_addParts_198 : decode cX0_addParts 198 = .ok (.iload_n 1, 1) := by decide +kernel
theorem dX0_addParts_199 : decode cX0_addParts 199 = .ok (.iload 4, 2) := by decide +kernel
theorem dX0_addParts_201 : decode cX0_addParts 201 = .ok (.iload 12, 2) := by decide +kernel
theorem dX0_addParts_203 : decode cX0_addParts 203 = .ok (.iload 15, 2) := by decide +kernel
theorem dX0_addParts_205 : decode cX0_addParts 205 = .ok (.invokestatic 109, 3) := by decide +kernel
theorem dX0_addParts_208 : decode cX0_addParts 208 = .ok (.invokevirtual 113, 3) := by decide +kernel
theorem dX0_addParts_211 : decode cX0_addParts 211 = .ok (.ifCond .eq 9, 3) := by decide +kernel
theorem dX0_addParts_214 : decode cX0_addParts 214 = .ok (.iinc 15 1, 3) := by decide +kernel
theorem dX0_addParts_217 : decode cX0_addParts 217 = .ok (.goto (-43), 3) := by decide +kernel
theorem dX0_addParts_220 : decode cX0_addParts 220 = .ok (.iload 15, 2) := by decide +kernel
theorem dX0_addParts_222 : decode cX0_addParts 222 = .ok (.ifCond .le 7, 3) := by decide +kernel
theorem dX0_addParts_225 : decode cX0_addParts 225 = .ok (.iconst 1, 1) := by decide +kernel
theorem dX0_addParts_226 : decode cX0_addParts 226 = .ok (.goto 4, 3) := by decide +kernel
theorem dX0_addParts_229 : decode cX0_addParts 229 = .ok (.iconst 0, 1) := by decide +kernel
theorem dX0_addParts_230 : decode cX0_addParts 230 = .ok (.istore 11, 2) := by decide +kernel
theorem dX0_addParts_232 : decode cX0_addParts 232 = .ok (.iinc 12 1, 3) := by decide +kernel
theorem dX0_addParts_235 : decode cX0_addParts 235 = .ok (.goto (-115), 3) := by decide +kernel
theorem dX0_addParts_238 : decode cX0_addParts 238 = .ok (.return_, 1) := by decide +kernel
theorem dX0_offer_0 : decode cX0_offer 0 = .ok (.iload_n 1, 1) := by decide +kernel
theorem dX0_offer_1 : decode cX0_offer 1 = .ok (.bipush 30, 2) := by decide +kernel
theorem dX0_offer_3 : decode cX0_offer 3 = .ok (.imul, 1) := by decide +kernel
theorem dX0_offer_4 : decode cX0_offer 4 = .ok (.istore 4, 2) := by decide +kernel
theorem dX0_offer_6 : decode cX0_offer 6 = .ok (.aload_n 0, 1) := by decide +kernel
theorem dX0_offer_7 : decode cX0_offer 7 = .ok (.getfield 33, 3) := by decide +kernel
theorem dX0_offer_10 : decode cX0_offer 10 = .ok (.iload_n 1, 1) := by decide +kernel
theorem dX0_offer_11 : decode cX0_offer 11 = .ok (.iaload, 1) := by decide +kernel
theorem dX0_offer_12 : decode cX0_offer 12 = .ok (.istore 5, 2) := by decide +kernel
theorem dX0_offer_14 : decode cX0_offer 14 = .ok (.iload 5, 2) := by decide +kernel
theorem dX0_offer_16 : decode cX0_offer 16 = .ok (.bipush 30, 2) := by decide +kernel
theorem dX0_offer_18 : decode cX0_offer 18 = .ok (.if_icmp .ge 16, 3) := by decide +kernel
theorem dX0_offer_21 : decode cX0_offer 21 = .ok (.aload_n 0, 1) := by decide +kernel
theorem dX0_offer_22 : decode cX0_offer 22 = .ok (.getfield 33, 3) := by decide +kernel
theorem dX0_offer_25 : decode cX0_offer 25 = .ok (.iload_n 1, 1) := by decide +kernel
theorem dX0_offer_26 : decode cX0_offer 26 = .ok (.iload 5, 2) := by decide +kernel
theorem dX0_offer_28 : decode cX0_offer 28 = .ok (.iconst 1, 1) := by decide +kernel
theorem dX0_offer_29 : decode cX0_offer 29 = .ok (.iadd, 1) := by decide +kernel
theorem dX0_offer_30 : decode cX0_offer 30 = .ok (.iastore, 1) := by decide +kernel
theorem dX0_offer_31 : decode cX0_offer 31 = .ok (.goto 24, 3) := by decide +kernel
theorem dX0_offer_34 : decode cX0_offer 34 = .ok (.bipush 29, 2) := by decide +kernel
theorem dX0_offer_36 : decode cX0_offer 36 = .ok (.istore 5, 2) := by decide +kernel
theorem dX0_offer_38 : decode cX0_offer 38 = .ok (.lload_n 2, 1) := by decide +kernel
theorem dX0_offer_39 : decode cX0_offer 39 = .ok (.aload_n 0, 1) := by decide +kernel
theorem dX0_offer_40 : decode cX0_offer 40 = .ok (.getfield 37, 3) := by decide +kernel
theorem dX0_offer_43 : decode cX0_offer 43 = .ok (.iload 4, 2) := by decide +kernel
theorem dX0_offer_45 : decode cX0_offer 45 = .ok (.iload 5, 2) := by decide +kernel
theorem dX0_offer_47 : decode cX0_offer 47 = .ok (.iadd, 1) := by decide +kernel
theorem dX0_offer_48 : decode cX0_offer 48 = .ok (.laload, 1) := by decide +kernel
theorem dX0_offer_49 : decode cX0_offer 49 = .ok (.lcmp, 1) := by decide +kernel
theorem dX0_offer_50 : decode cX0_offer 50 = .ok (.ifCond .lt 5, 3) := by decide +kernel
theorem dX0_offer_53 : decode cX0_offer 53 = .ok (.iconst 0, 1) := by decide +kernel
theorem dX0_offer_54 : decode cX0_offer 54 = .ok (.ireturn, 1) := by decide +kernel
theorem dX0_offer_55 : decode cX0_offer 55 = .ok (.iload 5, 2) := by decide +kernel
theorem dX0_offer_57 : decode cX0_offer 57 = .ok (.ifCond .le 48, 3) := by decide +kernel
theorem dX0_offer_60 : decode cX0_offer 60 = .ok (.aload_n 0, 1) := by decide +kernel
theorem dX0_offer_61 : decode cX0_offer 61 = .ok (.getfield 37, 3) := by decide +kernel
theorem dX0_offer_64 : decode cX0_offer 64 = .ok (.iload 4, 2) := by decide +kernel
theorem dX0_offer_66 : decode cX0_offer 66 = .ok (.iload 5, 2) := by decide +kernel
theorem dX0_offer_68 : decode cX0_offer 68 = .ok (.iadd, 1) := by decide +kernel
theorem dX0_offer_69 : decode cX0_offer 69 = .ok (.iconst 1, 1) := by decide +kernel
theorem dX0_offer_70 : decode cX0_offer 70 = .ok (.isub, 1) := by decide +kernel
theorem dX0_offer_71 : decode cX0_offer 71 = .ok (.laload, 1) := by decide +kernel
theorem dX0_offer_72 : decode cX0_offer 72 = .ok (.lload_n 2, 1) := by decide +kernel
theorem dX0_offer_73 : decode cX0_offer 73 = .ok (.lcmp, 1) := by decide +kernel
theorem dX0_offer_74 : decode cX0_offer 74 = .ok (.ifCond .le 31, 3) := by decide +kernel
theorem dX0_offer_77 : decode cX0_offer 77 = .ok (.aload_n 0, 1) := by decide +kernel
theorem dX0_offer_78 : decode cX0_offer 78 = .ok (.getfield 37, 3) := by decide +kernel
theorem dX0_offer_81 : decode cX0_offer 81 = .ok (.iload 4, 2) := by decide +kernel
theorem dX0_offer_83 : decode cX0_offer 83 = .ok (.iload 5, 2) := by decide +kernel
theorem dX0_offer_85 : decode cX0_offer 85 = .ok (.iadd, 1) := by decide +kernel
theorem dX0_offer_86 : decode cX0_offer 86 = .ok (.aload_n 0, 1) := by decide +kernel
theorem dX0_offer_87 : decode cX0_offer 87 = .ok (.getfield 37, 3) := by decide +kernel
theorem dX0_offer_90 : decode cX0_offer 90 = .ok (.iload 4, 2) := by decide +kernel
theorem dX0_offer_92 : decode cX0_offer 92 = .ok (.iload 5, 2) := by decide +kernel
theorem dX0_offer_94 : decode cX0_offer 94 = .ok (.iadd, 1) := by decide +kernel
theorem dX0_offer_95 : decode cX0_offer 95 = .ok (.iconst 1, 1) := by decide +kernel
theorem dX0_offer_96 : decode cX0_offer 96 = .ok (.isub, 1) := by decide +kernel
theorem dX0_offer_97 : decode cX0_offer 97 = .ok (.laload, 1) := by decide +kernel
theorem dX0_offer_98 : decode cX0_offer 98 = .ok (.lastore, 1) := by decide +kernel
theorem dX0_offer_99 : decode cX0_offer 99 = .ok (.iinc 5 (-1), 3) := by decide +kernel
theorem dX0_offer_102 : decode cX0_offer 102 = .ok (.goto (-47), 3) := by decide +kernel
theorem dX0_offer_105 : decode cX0_offer 105 = .ok (.aload_n 0, 1) := by decide +kernel
theorem dX0_offer_106 : decode cX0_offer 106 = .ok (.getfield 37, 3) := by decide +kernel
theorem dX0_offer_109 : decode cX0_offer 109 = .ok (.iload 4, 2) := by decide +kernel
theorem dX0_offer_111 : decode cX0_offer 111 = .ok (.iload 5, 2) := by decide +kernel
theorem dX0_offer_113 : decode cX0_offer 113 = .ok (.iadd, 1) := by decide +kernel
theorem dX0_offer_114 : decode cX0_offer 114 = .ok (.lload_n 2, 1) := by decide +kernel
theorem dX0_offer_115 : decode cX0_offer 115 = .ok (.lastore, 1) := by decide +kernel
theorem dX0_offer_116 : decode cX0_offer 116 = .ok (.iconst 1, 1) := by decide +kernel
theorem dX0_offer_117 : decode cX0_offer 117 = .ok (.ireturn, 1) := by decide +kernel
theorem dX0_listed_0 : decode cX0_listed 0 = .ok (.aload_n 0, 1) := by decide +kernel
theorem dX0_listed_1 : decode cX0_listed 1 = .ok (.getfield 40, 3) := by decide +kernel
theorem dX0_listed_4 : decode cX0_listed 4 = .ok (.ifCond .ne 7, 3) := by decide +kernel
theorem dX0_listed_7 : decode cX0_listed 7 = .ok (.iconst 0, 1) := by decide +kernel
theorem dX0_listed_8 : decode cX0_listed 8 = .ok (.goto 12, 3) := by decide +kernel
theorem dX0_listed_11 : decode cX0_listed 11 = .ok (.aload_n 0, 1) := by decide +kernel
theorem dX0_listed_12 : decode cX0_listed 12 = .ok (.getfield 33, 3) := by decide +kernel
theorem dX0_listed_15 : decode cX0_listed 15 = .ok (.aload_n 0, 1) := by decide +kernel
theorem dX0_listed_16 : decode cX0_listed 16 = .ok (.invokevirtual 123, 3) := by decide +kernel
theorem dX0_listed_19 : decode cX0_listed 19 = .ok (.iaload, 1) := by decide +kernel
theorem dX0_listed_20 : decode cX0_listed 20 = .ok (.ireturn, 1) := by decide +kernel
theorem dX0_countOfAll_0 : decode cX0_countOfAll 0 = .ok (.aload_n 0, 1) := by decide +kernel
theorem dX0_countOfAll_1 : decode cX0_countOfAll 1 = .ok (.getfield 40, 3) := by decide +kernel
theorem dX0_countOfAll_4 : decode cX0_countOfAll 4 = .ok (.ifCond .ne 7, 3) := by decide +kernel
theorem dX0_countOfAll_7 : decode cX0_countOfAll 7 = .ok (.lconst 0, 1) := by decide +kernel
theorem dX0_countOfAll_8 : decode cX0_countOfAll 8 = .ok (.goto 12, 3) := by decide +kernel
theorem dX0_countOfAll_11 : decode cX0_countOfAll 11 = .ok (.aload_n 0, 1) := by decide +kernel
theorem dX0_countOfAll_12 : decode cX0_countOfAll 12 = .ok (.getfield 29, 3) := by decide +kernel
theorem dX0_countOfAll_15 : decode cX0_countOfAll 15 = .ok (.aload_n 0, 1) := by decide +kernel
theorem dX0_countOfAll_16 : decode cX0_countOfAll 16 = .ok (.invokevirtual 123, 3) := by decide +kernel
theorem dX0_countOfAll_19 : decode cX0_countOfAll 19 = .ok (.laload, 1) := by decide +kernel
theorem dX0_countOfAll_20 : decode cX0_countOfAll 20 = .ok (.lreturn, 1) := by decide +kernel
theorem dX0_priceOfWhole_0 : decode cX0_priceOfWhole 0 = .ok (.aload_n 0, 1) := by decide +kernel
theorem dX0_priceOfWhole_1 : decode cX0_priceOfWhole 1 = .ok (.aload_n 0, 1) := by decide +kernel
theorem dX0_priceOfWhole_2 : decode cX0_priceOfWhole 2 = .ok (.getfield 12, 3) := by decide +kernel
theorem dX0_priceOfWhole_5 : decode cX0_priceOfWhole 5 = .ok (.getfield 89, 3) := by decide +kernel
theorem dX0_priceOfWhole_8 : decode cX0_priceOfWhole 8 = .ok (.iconst 0, 1) := by decide +kernel
theorem dX0_priceOfWhole_9 : decode cX0_priceOfWhole 9 = .ok (.iaload, 1) := by decide +kernel
theorem dX0_priceOfWhole_10 : decode cX0_priceOfWhole 10 = .ok (.iconst 0, 1) := by decide +kernel
theorem dX0_priceOfWhole_11 : decode cX0_priceOfWhole 11 = .ok (.aload_n 0, 1) := by decide +kernel
theorem dX0_priceOfWhole_12 : decode cX0_priceOfWhole 12 = .ok (.getfield 40, 3) := by decide +kernel
theorem dX0_priceOfWhole_15 : decode cX0_priceOfWhole 15 = .ok (.iconst 1, 1) := by decide +kernel
theorem dX0_priceOfWhole_16 : decode cX0_priceOfWhole 16 = .ok (.isub, 1) := by decide +kernel
theorem dX0_priceOfWhole_17 : decode cX0_priceOfWhole 17 = .ok (.iload_n 1, 1) := by decide +kernel
theorem dX0_priceOfWhole_18 : decode cX0_priceOfWhole 18 = .ok (.invokevirtual 105, 3) := by decide +kernel
theorem dX0_priceOfWhole_21 : decode cX0_priceOfWhole 21 = .ok (.ireturn, 1) := by decide +kernel
theorem dX0_wholeRow_0 : decode cX0_wholeRow 0 = .ok (.aload_n 0, 1) := by decide +kernel
theorem dX0_wholeRow_1 : decode cX0_wholeRow 1 = .ok (.getfield 12, 3) := by decide +kernel
theorem dX0_wholeRow_4 : decode cX0_wholeRow 4 = .ok (.getfield 89, 3) := by decide +kernel
theorem dX0_wholeRow_7 : decode cX0_wholeRow 7 = .ok (.iconst 0, 1) := by decide +kernel
theorem dX0_wholeRow_8 : decode cX0_wholeRow 8 = .ok (.iaload, 1) := by decide +kernel
theorem dX0_wholeRow_9 : decode cX0_wholeRow 9 = .ok (.iconst 0, 1) := by decide +kernel
theorem dX0_wholeRow_10 : decode cX0_wholeRow 10 = .ok (.aload_n 0, 1) := by decide +kernel
theorem dX0_wholeRow_11 : decode cX0_wholeRow 11 = .ok (.getfield 40, 3) := by decide +kernel
theorem dX0_wholeRow_14 : decode cX0_wholeRow 14 = .ok (.iconst 1, 1) := by decide +kernel
theorem dX0_wholeRow_15 : decode cX0_wholeRow 15 = .ok (.isub, 1) := by decide +kernel
theorem dX0_wholeRow_16 : decode cX0_wholeRow 16 = .ok (.invokestatic 68, 3) := by decide +kernel
theorem dX0_wholeRow_19 : decode cX0_wholeRow 19 = .ok (.ireturn, 1) := by decide +kernel
theorem dX0_pitchAt_0 : decode cX0_pitchAt 0 = .ok (.aload_n 0, 1) := by decide +kernel
theorem dX0_pitchAt_1 : decode cX0_pitchAt 1 = .ok (.iload_n 1, 1) := by decide +kernel
theorem dX0_pitchAt_2 : decode cX0_pitchAt 2 = .ok (.invokevirtual 127, 3) := by decide +kernel
theorem dX0_pitchAt_5 : decode cX0_pitchAt 5 = .ok (.ifCond .eq 12, 3) := by decide +kernel
theorem dX0_pitchAt_8 : decode cX0_pitchAt 8 = .ok (.aload_n 0, 1) := by decide +kernel
theorem dX0_pitchAt_9 : decode cX0_pitchAt 9 = .ok (.getfield 25, 3) := by decide +kernel
theorem dX0_pitchAt_12 : decode cX0_pitchAt 12 = .ok (.iload_n 1, 1) := by decide +kernel
theorem dX0_pitchAt_13 : decode cX0_pitchAt 13 = .ok (.iaload, 1) := by decide +kernel
theorem dX0_pitchAt_14 : decode cX0_pitchAt 14 = .ok (.goto 4, 3) := by decide +kernel
theorem dX0_pitchAt_17 : decode cX0_pitchAt 17 = .ok (.iconst (-1), 1) := by decide +kernel
theorem dX0_pitchAt_18 : decode cX0_pitchAt 18 = .ok (.ireturn, 1) := by decide +kernel
theorem dX0_hasSlot_0 : decode cX0_hasSlot 0 = .ok (.iload_n 1, 1) := by decide +kernel
theorem dX0_hasSlot_1 : decode cX0_hasSlot 1 = .ok (.ifCond .lt 15, 3) := by decide +kernel
theorem dX0_hasSlot_4 : decode cX0_hasSlot 4 = .ok (.iload_n 1, 1) := by decide +kernel
theorem dX0_hasSlot_5 : decode cX0_hasSlot 5 = .ok (.aload_n 0, 1) := by decide +kernel
theorem dX0_hasSlot_6 : decode cX0_hasSlot 6 = .ok (.getfield 40, 3) := by decide +kernel
theorem dX0_hasSlot_9 : decode cX0_hasSlot 9 = .ok (.if_icmp .ge 7, 3) := by decide +kernel
theorem dX0_hasSlot_12 : decode cX0_hasSlot 12 = .ok (.iconst 1, 1) := by decide +kernel
theorem dX0_hasSlot_13 : decode cX0_hasSlot 13 = .ok (.goto 4, 3) := by decide +kernel
theorem dX0_hasSlot_16 : decode cX0_hasSlot 16 = .ok (.iconst 0, 1) := by decide +kernel
theorem dX0_hasSlot_17 : decode cX0_hasSlot 17 = .ok (.ireturn, 1) := by decide +kernel
theorem dX0_sizeOf_0 : decode cX0_sizeOf 0 = .ok (.iload_n 1, 1) := by decide +kernel
theorem dX0_sizeOf_1 : decode cX0_sizeOf 1 = .ok (.bipush 26, 2) := by decide +kernel
theorem dX0_sizeOf_3 : decode cX0_sizeOf 3 = .ok (.if_icmp .ge 15, 3) := by decide +kernel
theorem dX0_sizeOf_6 : decode cX0_sizeOf 6 = .ok (.aload_n 0, 1) := by decide +kernel
theorem dX0_sizeOf_7 : decode cX0_sizeOf 7 = .ok (.getfield 33, 3) := by decide +kernel
theorem dX0_sizeOf_10 : decode cX0_sizeOf 10 = .ok (.iload_n 1, 1) := by decide +kernel
theorem dX0_sizeOf_11 : decode cX0_sizeOf 11 = .ok (.iload_n 2, 1) := by decide +kernel
theorem dX0_sizeOf_12 : decode cX0_sizeOf 12 = .ok (.iload_n 3, 1) := by decide +kernel
theorem dX0_sizeOf_13 : decode cX0_sizeOf 13 = .ok (.invokestatic 68, 3) := by decide +kernel
theorem dX0_sizeOf_16 : decode cX0_sizeOf 16 = .ok (.iaload, 1) := by decide +kernel
theorem dX0_sizeOf_17 : decode cX0_sizeOf 17 = .ok (.ireturn, 1) := by decide +kernel
theorem dX0_sizeOf_18 : decode cX0_sizeOf 18 = .ok (.iload_n 2, 1) := by decide +kernel
theorem dX0_sizeOf_19 : decode cX0_sizeOf 19 = .ok (.iload_n 3, 1) := by decide +kernel
theorem dX0_sizeOf_20 : decode cX0_sizeOf 20 = .ok (.if_icmp .ne 17, 3) := by decide +kernel
theorem dX0_sizeOf_23 : decode cX0_sizeOf 23 = .ok (.aload_n 0, 1) := by decide +kernel
theorem dX0_sizeOf_24 : decode cX0_sizeOf 24 = .ok (.iload_n 1, 1) := by decide +kernel
theorem dX0_sizeOf_25 : decode cX0_sizeOf 25 = .ok (.iload_n 2, 1) := by decide +kernel
theorem dX0_sizeOf_26 : decode cX0_sizeOf 26 = .ok (.invokevirtual 131, 3) := by decide +kernel
theorem dX0_sizeOf_29 : decode cX0_sizeOf 29 = .ok (.iconst (-1), 1) := by decide +kernel
theorem dX0_sizeOf_30 : decode cX0_sizeOf 30 = .ok (.if_icmp .eq 7, 3) := by decide +kernel
theorem dX0_sizeOf_33 : decode cX0_sizeOf 33 = .ok (.iconst 1, 1) := by decide +kernel
theorem dX0_sizeOf_34 : decode cX0_sizeOf 34 = .ok (.goto 4, 3) := by decide +kernel
theorem dX0_sizeOf_37 : decode cX0_sizeOf 37 = .ok (.iconst 0, 1) := by decide +kernel
theorem dX0_sizeOf_38 : decode cX0_sizeOf 38 = .ok (.ireturn, 1) := by decide +kernel
theorem dX0_countOf_0 : decode cX0_countOf 0 = .ok (.iload_n 1, 1) := by decide +kernel
theorem dX0_countOf_1 : decode cX0_countOf 1 = .ok (.bipush 26, 2) := by decide +kernel
theorem dX0_countOf_3 : decode cX0_countOf 3 = .ok (.if_icmp .ge 17, 3) := by decide +kernel
theorem dX0_countOf_6 : decode cX0_countOf 6 = .ok (.aload_n 0, 1) := by decide +kernel
theorem dX0_countOf_7 : decode cX0_countOf 7 = .ok (.getfield 29, 3) := by decide +kernel
theorem dX0_countOf_10 : decode cX0_countOf 10 = .ok (.iload_n 1, 1) := by decide +kernel
theorem dX0_countOf_11 : decode cX0_countOf 11 = .ok (.iload_n 2, 1) := by decide +kernel
theorem dX0_countOf_12 : decode cX0_countOf 12 = .ok (.iload_n 3, 1) := by decide +kernel
theorem dX0_countOf_13 : decode cX0_countOf 13 = .ok (.invokestatic 68, 3) := by decide +kernel
theorem dX0_countOf_16 : decode cX0_countOf 16 = .ok (.laload, 1) := by decide +kernel
theorem dX0_countOf_17 : decode cX0_countOf 17 = .ok (.goto 11, 3) := by decide +kernel
theorem dX0_countOf_20 : decode cX0_countOf 20 = .ok (.aload_n 0, 1) := by decide +kernel
theorem dX0_countOf_21 : decode cX0_countOf 21 = .ok (.iload_n 1, 1) := by decide +kernel
theorem dX0_countOf_22 : decode cX0_countOf 22 = .ok (.iload_n 2, 1) := by decide +kernel
theorem dX0_countOf_23 : decode cX0_countOf 23 = .ok (.iload_n 3, 1) := by decide +kernel
theorem dX0_countOf_24 : decode cX0_countOf 24 = .ok (.invokevirtual 95, 3) := by decide +kernel
theorem dX0_countOf_27 : decode cX0_countOf 27 = .ok (.i2l, 1) := by decide +kernel
theorem dX0_countOf_28 : decode cX0_countOf 28 = .ok (.lreturn, 1) := by decide +kernel
theorem dX0_priceOf_0 : decode cX0_priceOf 0 = .ok (.iload_n 1, 1) := by decide +kernel
theorem dX0_priceOf_1 : decode cX0_priceOf 1 = .ok (.bipush 26, 2) := by decide +kernel
theorem dX0_priceOf_3 : decode cX0_priceOf 3 = .ok (.if_icmp .ge 17, 3) := by decide +kernel
theorem dX0_priceOf_6 : decode cX0_priceOf 6 = .ok (.aload_n 0, 1) := by decide +kernel
theorem dX0_priceOf_7 : decode cX0_priceOf 7 = .ok (.iload_n 1, 1) := by decide +kernel
theorem dX0_priceOf_8 : decode cX0_priceOf 8 = .ok (.iload_n 2, 1) := by decide +kernel
theorem dX0_priceOf_9 : decode cX0_priceOf 9 = .ok (.iload_n 3, 1) := by decide +kernel
theorem dX0_priceOf_10 : decode cX0_priceOf 10 = .ok (.iload 4, 2) := by decide +kernel
theorem dX0_priceOf_12 : decode cX0_priceOf 12 = .ok (.invokevirtual 134, 3) := by decide +kernel
theorem dX0_priceOf_15 : decode cX0_priceOf 15 = .ok (.bipush 21, 2) := by decide +kernel
theorem dX0_priceOf_17 : decode cX0_priceOf 17 = .ok (.lushr, 1) := by decide +kernel
theorem dX0_priceOf_18 : decode cX0_priceOf 18 = .ok (.l2i, 1) := by decide +kernel
theorem dX0_priceOf_19 : decode cX0_priceOf 19 = .ok (.ireturn, 1) := by decide +kernel
theorem dX0_priceOf_20 : decode cX0_priceOf 20 = .ok (.aload_n 0, 1) := by decide +kernel
theorem dX0_priceOf_21 : decode cX0_priceOf 21 = .ok (.getfield 21, 3) := by decide +kernel
theorem dX0_priceOf_24 : decode cX0_priceOf 24 = .ok (.getfield 138, 3) := by decide +kernel
theorem dX0_priceOf_27 : decode cX0_priceOf 27 = .ok (.iload_n 2, 1) := by decide +kernel
theorem dX0_priceOf_28 : decode cX0_priceOf 28 = .ok (.bipush 70, 2) := by decide +kernel
theorem dX0_priceOf_30 : decode cX0_priceOf 30 = .ok (.imul, 1) := by decide +kernel
theorem dX0_priceOf_31 : decode cX0_priceOf 31 = .ok (.iload_n 1, 1) := by decide +kernel
theorem dX0_priceOf_32 : decode cX0_priceOf 32 = .ok (.iadd, 1) := by decide +kernel
theorem dX0_priceOf_33 : decode cX0_priceOf 33 = .ok (.bipush 26, 2) := by decide +kernel
theorem dX0_priceOf_35 : decode cX0_priceOf 35 = .ok (.isub, 1) := by decide +kernel
theorem dX0_priceOf_36 : decode cX0_priceOf 36 = .ok (.iaload, 1) := by decide +kernel
theorem dX0_priceOf_37 : decode cX0_priceOf 37 = .ok (.ireturn, 1) := by decide +kernel
theorem dX0_chordOf_0 : decode cX0_chordOf 0 = .ok (.aload_n 0, 1) := by decide +kernel
theorem dX0_chordOf_1 : decode cX0_chordOf 1 = .ok (.getfield 21, 3) := by decide +kernel
theorem dX0_chordOf_4 : decode cX0_chordOf 4 = .ok (.getfield 141, 3) := by decide +kernel
theorem dX0_chordOf_7 : decode cX0_chordOf 7 = .ok (.iload_n 2, 1) := by decide +kernel
theorem dX0_chordOf_8 : decode cX0_chordOf 8 = .ok (.bipush 70, 2) := by decide +kernel
theorem dX0_chordOf_10 : decode cX0_chordOf 10 = .ok (.imul, 1) := by decide +kernel
theorem dX0_chordOf_11 : decode cX0_chordOf 11 = .ok (.iload_n 1, 1) := by decide +kernel
theorem dX0_chordOf_12 : decode cX0_chordOf 12 = .ok (.iadd, 1) := by decide +kernel
theorem dX0_chordOf_13 : decode cX0_chordOf 13 = .ok (.bipush 26, 2) := by decide +kernel
theorem dX0_chordOf_15 : decode cX0_chordOf 15 = .ok (.isub, 1) := by decide +kernel
theorem dX0_chordOf_16 : decode cX0_chordOf 16 = .ok (.iaload, 1) := by decide +kernel
theorem dX0_chordOf_17 : decode cX0_chordOf 17 = .ok (.ireturn, 1) := by decide +kernel
theorem dX0_entryAt_0 : decode cX0_entryAt 0 = .ok (.aload_n 0, 1) := by decide +kernel
theorem dX0_entryAt_1 : decode cX0_entryAt 1 = .ok (.getfield 37, 3) := by decide +kernel
theorem dX0_entryAt_4 : decode cX0_entryAt 4 = .ok (.iload_n 1, 1) := by decide +kernel
theorem dX0_entryAt_5 : decode cX0_entryAt 5 = .ok (.iload_n 2, 1) := by decide +kernel
theorem dX0_entryAt_6 : decode cX0_entryAt 6 = .ok (.iload_n 3, 1) := by decide +kernel
theorem dX0_entryAt_7 : decode cX0_entryAt 7 = .ok (.invokestatic 68, 3) := by decide +kernel
theorem dX0_entryAt_10 : decode cX0_entryAt 10 = .ok (.bipush 30, 2) := by decide +kernel
theorem dX0_entryAt_12 : decode cX0_entryAt 12 = .ok (.imul, 1) := by decide +kernel
theorem dX0_entryAt_13 : decode cX0_entryAt 13 = .ok (.iload 4, 2) := by decide +kernel
theorem dX0_entryAt_15 : decode cX0_entryAt 15 = .ok (.iadd, 1) := by decide +kernel
theorem dX0_entryAt_16 : decode cX0_entryAt 16 = .ok (.laload, 1) := by decide +kernel
theorem dX0_entryAt_17 : decode cX0_entryAt 17 = .ok (.lreturn, 1) := by decide +kernel
theorem dX0_rowOf_0 : decode cX0_rowOf 0 = .ok (.iload_n 2, 1) := by decide +kernel
theorem dX0_rowOf_1 : decode cX0_rowOf 1 = .ok (.iload_n 2, 1) := by decide +kernel
theorem dX0_rowOf_2 : decode cX0_rowOf 2 = .ok (.iconst 1, 1) := by decide +kernel
theorem dX0_rowOf_3 : decode cX0_rowOf 3 = .ok (.iadd, 1) := by decide +kernel
theorem dX0_rowOf_4 : decode cX0_rowOf 4 = .ok (.imul, 1) := by decide +kernel
theorem dX0_rowOf_5 : decode cX0_rowOf 5 = .ok (.iconst 2, 1) := by decide +kernel
theorem dX0_rowOf_6 : decode cX0_rowOf 6 = .ok (.idiv, 1) := by decide +kernel
theorem dX0_rowOf_7 : decode cX0_rowOf 7 = .ok (.iload_n 1, 1) := by decide +kernel
theorem dX0_rowOf_8 : decode cX0_rowOf 8 = .ok (.iadd, 1) := by decide +kernel
theorem dX0_rowOf_9 : decode cX0_rowOf 9 = .ok (.bipush 26, 2) := by decide +kernel
theorem dX0_rowOf_11 : decode cX0_rowOf 11 = .ok (.imul, 1) := by decide +kernel
theorem dX0_rowOf_12 : decode cX0_rowOf 12 = .ok (.iload_n 0, 1) := by decide +kernel
theorem dX0_rowOf_13 : decode cX0_rowOf 13 = .ok (.iadd, 1) := by decide +kernel
theorem dX0_rowOf_14 : decode cX0_rowOf 14 = .ok (.ireturn, 1) := by decide +kernel
theorem dX0_entryOf_0 : decode cX0_entryOf 0 = .ok (.iload_n 1, 1) := by decide +kernel
theorem dX0_entryOf_1 : decode cX0_entryOf 1 = .ok (.bipush 15, 2) := by decide +kernel
theorem dX0_entryOf_3 : decode cX0_entryOf 3 = .ok (.ishl, 1) := by decide +kernel
theorem dX0_entryOf_4 : decode cX0_entryOf 4 = .ok (.iload_n 2, 1) := by decide +kernel
theorem dX0_entryOf_5 : decode cX0_entryOf 5 = .ok (.bipush 10, 2) := by decide +kernel
theorem dX0_entryOf_7 : decode cX0_entryOf 7 = .ok (.ishl, 1) := by decide +kernel
theorem dX0_entryOf_8 : decode cX0_entryOf 8 = .ok (.ior, 1) := by decide +kernel
theorem dX0_entryOf_9 : decode cX0_entryOf 9 = .ok (.iload_n 3, 1) := by decide +kernel
theorem dX0_entryOf_10 : decode cX0_entryOf 10 = .ok (.iconst 5, 1) := by decide +kernel
theorem dX0_entryOf_11 : decode cX0_entryOf 11 = .ok (.ishl, 1) := by decide +kernel
theorem dX0_entryOf_12 : decode cX0_entryOf 12 = .ok (.ior, 1) := by decide +kernel
theorem dX0_entryOf_13 : decode cX0_entryOf 13 = .ok (.iload 4, 2) := by decide +kernel
theorem dX0_entryOf_15 : decode cX0_entryOf 15 = .ok (.ior, 1) := by decide +kernel
theorem dX0_entryOf_16 : decode cX0_entryOf 16 = .ok (.i2l, 1) := by decide +kernel
theorem dX0_entryOf_17 : decode cX0_entryOf 17 = .ok (.lstore 5, 2) := by decide +kernel
theorem dX0_entryOf_19 : decode cX0_entryOf 19 = .ok (.iload_n 0, 1) := by decide +kernel
theorem dX0_entryOf_20 : decode cX0_entryOf 20 = .ok (.i2l, 1) := by decide +kernel
theorem dX0_entryOf_21 : decode cX0_entryOf 21 = .ok (.bipush 21, 2) := by decide +kernel
theorem dX0_entryOf_23 : decode cX0_entryOf 23 = .ok (.lshl, 1) := by decide +kernel
theorem dX0_entryOf_24 : decode cX0_entryOf 24 = .ok (.lload 5, 2) := by decide +kernel
theorem dX0_entryOf_26 : decode cX0_entryOf 26 = .ok (.lor, 1) := by decide +kernel
theorem dX0_entryOf_27 : decode cX0_entryOf 27 = .ok (.lreturn, 1) := by decide +kernel
theorem dX0_ruleOf_0 : decode cX0_ruleOf 0 = .ok (.lload_n 0, 1) := by decide +kernel
theorem dX0_ruleOf_1 : decode cX0_ruleOf 1 = .ok (.bipush 15, 2) := by decide +kernel
theorem dX0_ruleOf_3 : decode cX0_ruleOf 3 = .ok (.lushr, 1) := by decide +kernel
theorem dX0_ruleOf_4 : decode cX0_ruleOf 4 = .ok (.l2i, 1) := by decide +kernel
theorem dX0_ruleOf_5 : decode cX0_ruleOf 5 = .ok (.bipush 63, 2) := by decide +kernel
theorem dX0_ruleOf_7 : decode cX0_ruleOf 7 = .ok (.iand, 1) := by decide +kernel
theorem dX0_ruleOf_8 : decode cX0_ruleOf 8 = .ok (.ireturn, 1) := by decide +kernel
theorem dX0_partOf_0 : decode cX0_partOf 0 = .ok (.lload_n 0, 1) := by decide +kernel
theorem dX0_partOf_1 : decode cX0_partOf 1 = .ok (.bipush 10, 2) := by decide +kernel
theorem dX0_partOf_3 : decode cX0_partOf 3 = .ok (.lushr, 1) := by decide +kernel
theorem dX0_partOf_4 : decode cX0_partOf 4 = .ok (.l2i, 1) := by decide +kernel
theorem dX0_partOf_5 : decode cX0_partOf 5 = .ok (.bipush 31, 2) := by decide +kernel
theorem dX0_partOf_7 : decode cX0_partOf 7 = .ok (.iand, 1) := by decide +kernel
theorem dX0_partOf_8 : decode cX0_partOf 8 = .ok (.ireturn, 1) := by decide +kernel
theorem dX0_rankOneOf_0 : decode cX0_rankOneOf 0 = .ok (.lload_n 0, 1) := by decide +kernel
theorem dX0_rankOneOf_1 : decode cX0_rankOneOf 1 = .ok (.iconst 5, 1) := by decide +kernel
theorem dX0_rankOneOf_2 : decode cX0_rankOneOf 2 = .ok (.lushr, 1) := by decide +kernel
theorem dX0_rankOneOf_3 : decode cX0_rankOneOf 3 = .ok (.l2i, 1) := by decide +kernel
theorem dX0_rankOneOf_4 : decode cX0_rankOneOf 4 = .ok (.bipush 31, 2) := by decide +kernel
theorem dX0_rankOneOf_6 : decode cX0_rankOneOf 6 = .ok (.iand, 1) := by decide +kernel
theorem dX0_rankOneOf_7 : decode cX0_rankOneOf 7 = .ok (.ireturn, 1) := by decide +kernel
theorem dX0_rankTwoOf_0 : decode cX0_rankTwoOf 0 = .ok (.lload_n 0, 1) := by decide +kernel
theorem dX0_rankTwoOf_1 : decode cX0_rankTwoOf 1 = .ok (.l2i, 1) := by decide +kernel
theorem dX0_rankTwoOf_2 : decode cX0_rankTwoOf 2 = .ok (.bipush 31, 2) := by decide +kernel
theorem dX0_rankTwoOf_4 : decode cX0_rankTwoOf 4 = .ok (.iand, 1) := by decide +kernel
theorem dX0_rankTwoOf_5 : decode cX0_rankTwoOf 5 = .ok (.ireturn, 1) := by decide +kernel
theorem dX1_init_0 : decode cX1_init 0 = .ok (.aload_n 0, 1) := by decide +kernel
theorem dX1_init_1 : decode cX1_init 1 = .ok (.invokespecial 3, 3) := by decide +kernel
theorem dX1_init_4 : decode cX1_init 4 = .ok (.aload_n 0, 1) := by decide +kernel
theorem dX1_init_5 : decode cX1_init 5 = .ok (.sipush 800, 3) := by decide +kernel
theorem dX1_init_8 : decode cX1_init 8 = .ok (.newarray .byte, 2) := by decide +kernel
theorem dX1_init_10 : decode cX1_init 10 = .ok (.putfield 9, 3) := by decide +kernel
theorem dX1_init_13 : decode cX1_init 13 = .ok (.aload_n 0, 1) := by decide +kernel
theorem dX1_init_14 : decode cX1_init 14 = .ok (.iconst 0, 1) := by decide +kernel
theorem dX1_init_15 : decode cX1_init 15 = .ok (.putfield 15, 3) := by decide +kernel
theorem dX1_init_18 : decode cX1_init 18 = .ok (.return_, 1) := by decide +kernel
theorem dX1_extend_0 : decode cX1_extend 0 = .ok (.iload_n 1, 1) := by decide +kernel
theorem dX1_extend_1 : decode cX1_extend 1 = .ok (.iconst 1, 1) := by decide +kernel
theorem dX1_extend_2 : decode cX1_extend 2 = .ok (.if_icmp .lt 21, 3) := by decide +kernel
theorem dX1_extend_5 : decode cX1_extend 5 = .ok (.iload_n 1, 1) := by decide +kernel
theorem dX1_extend_6 : decode cX1_extend 6 = .ok (.bipush 8, 2) := by decide +kernel
theorem dX1_extend_8 : decode cX1_extend 8 = .ok (.if_icmp .gt 15, 3) := by decide +kernel
theorem dX1_extend_11 : decode cX1_extend 11 = .ok (.aload_n 0, 1) := by decide +kernel
theorem dX1_extend_12 : decode cX1_extend 12 = .ok (.getfield 15, 3) := by decide +kernel
theorem dX1_extend_15 : decode cX1_extend 15 = .ok (.iload_n 1, 1) := by decide +kernel
theorem dX1_extend_16 : decode cX1_extend 16 = .ok (.iadd, 1) := by decide +kernel
theorem dX1_extend_17 : decode cX1_extend 17 = .ok (.sipush 800, 3) := by decide +kernel
theorem dX1_extend_20 : decode cX1_extend 20 = .ok (.if_icmp .le 5, 3) := by decide +kernel
theorem dX1_extend_23 : decode cX1_extend 23 = .ok (.iconst (-1), 1) := by decide +kernel
theorem dX1_extend_24 : decode cX1_extend 24 = .ok (.ireturn, 1) := by decide +kernel
theorem dX1_extend_25 : decode cX1_extend 25 = .ok (.iconst 0, 1) := by decide +kernel
theorem dX1_extend_26 : decode cX1_extend 26 = .ok (.istore 4, 2) := by decide +kernel
theorem dX1_extend_28 : decode cX1_extend 28 = .ok (.iload 4, 2) := by decide +kernel
theorem dX1_extend_30 : decode cX1_extend 30 = .ok (.iload_n 1, 1) := by decide +kernel
theorem dX1_extend_31 : decode cX1_extend 31 = .ok (.if_icmp .ge 30, 3) := by decide +kernel
theorem dX1_extend_34 : decode cX1_extend 34 = .ok (.aload_n 0, 1) := by decide +kernel
theorem dX1_extend_35 : decode cX1_extend 35 = .ok (.getfield 9, 3) := by decide +kernel
theorem dX1_extend_38 : decode cX1_extend 38 = .ok (.aload_n 0, 1) := by decide +kernel
theorem dX1_extend_39 : decode cX1_extend 39 = .ok (.getfield 15, 3) := by decide +kernel
theorem dX1_extend_42 : decode cX1_extend 42 = .ok (.iload 4, 2) := by decide +kernel
theorem dX1_extend_44 : decode cX1_extend 44 = .ok (.iadd, 1) := by decide +kernel
theorem dX1_extend_45 : decode cX1_extend 45 = .ok (.lload_n 2, 1) := by decide +kernel
theorem dX1_extend_46 : decode cX1_extend 46 = .ok (.bipush 8, 2) := by decide +kernel
theorem dX1_extend_48 : decode cX1_extend 48 = .ok (.iload 4, 2) := by decide +kernel
theorem dX1_extend_50 : decode cX1_extend 50 = .ok (.imul, 1) := by decide +kernel
theorem dX1_extend_51 : decode cX1_extend 51 = .ok (.lushr, 1) := by decide +kernel
theorem dX1_extend_52 : decode cX1_extend 52 = .ok (.l2i, 1) := by decide +kernel
theorem dX1_extend_53 : decode cX1_extend 53 = .ok (.i2b, 1) := by decide +kernel
theorem dX1_extend_54 : decode cX1_extend 54 = .ok (.bastore, 1) := by decide +kernel
theorem dX1_extend_55 : decode cX1_extend 55 = .ok (.iinc 4 1, 3) := by decide +kernel
theorem dX1_extend_58 : decode cX1_extend 58 = .ok (.goto (-30), 3) := by decide +kernel
theorem dX1_extend_61 : decode cX1_extend 61 = .ok (.aload_n 0, 1) := by decide +kernel
theorem dX1_extend_62 : decode cX1_extend 62 = .ok (.dup, 1) := by decide +kernel
theorem dX1_extend_63 : decode cX1_extend 63 = .ok (.getfield 15, 3) := by decide +kernel
theorem dX1_extend_66 : decode cX1_extend 66 = .ok (.iload_n 1, 1) := by decide +kernel
theorem dX1_extend_67 : decode cX1_extend 67 = .ok (.iadd, 1) := by decide +kernel
theorem dX1_extend_68 : decode cX1_extend 68 = .ok (.putfield 15, 3) := by decide +kernel
theorem dX1_extend_71 : decode cX1_extend 71 = .ok (.aload_n 0, 1) := by decide +kernel
theorem dX1_extend_72 : decode cX1_extend 72 = .ok (.getfield 15, 3) := by decide +kernel
theorem dX1_extend_75 : decode cX1_extend 75 = .ok (.ireturn, 1) := by decide +kernel
theorem dX1_octetAt_0 : decode cX1_octetAt 0 = .ok (.iload_n 1, 1) := by decide +kernel
theorem dX1_octetAt_1 : decode cX1_octetAt 1 = .ok (.ifCond .lt 24, 3) := by decide +kernel
theorem dX1_octetAt_4 : decode cX1_octetAt 4 = .ok (.iload_n 1, 1) := by decide +kernel
theorem dX1_octetAt_5 : decode cX1_octetAt 5 = .ok (.aload_n 0, 1) := by decide +kernel
theorem dX1_octetAt_6 : decode cX1_octetAt 6 = .ok (.getfield 15, 3) := by decide +kernel
theorem dX1_octetAt_9 : decode cX1_octetAt 9 = .ok (.if_icmp .ge 16, 3) := by decide +kernel
theorem dX1_octetAt_12 : decode cX1_octetAt 12 = .ok (.aload_n 0, 1) := by decide +kernel
theorem dX1_octetAt_13 : decode cX1_octetAt 13 = .ok (.getfield 9, 3) := by decide +kernel
theorem dX1_octetAt_16 : decode cX1_octetAt 16 = .ok (.iload_n 1, 1) := by decide +kernel
theorem dX1_octetAt_17 : decode cX1_octetAt 17 = .ok (.baload, 1) := by decide +kernel
theorem dX1_octetAt_18 : decode cX1_octetAt 18 = .ok (.sipush 255, 3) := by decide +kernel
theorem dX1_octetAt_21 : decode cX1_octetAt 21 = .ok (.iand, 1) := by decide +kernel
theorem dX1_octetAt_22 : decode cX1_octetAt 22 = .ok (.goto 4, 3) := by decide +kernel
theorem dX1_octetAt_25 : decode cX1_octetAt 25 = .ok (.iconst (-1), 1) := by decide +kernel
theorem dX1_octetAt_26 : decode cX1_octetAt 26 = .ok (.ireturn, 1) := by decide +kernel
theorem dX2_init_0 : decode cX2_init 0 = .ok (.aload_n 0, 1) := by decide +kernel
theorem dX2_init_1 : decode cX2_init 1 = .ok (.invokespecial 3, 3) := by decide +kernel
theorem dX2_init_4 : decode cX2_init 4 = .ok (.aload_n 0, 1) := by decide +kernel
theorem dX2_init_5 : decode cX2_init 5 = .ok (.bipush 60, 2) := by decide +kernel
theorem dX2_init_7 : decode cX2_init 7 = .ok (.newarray .int, 2) := by decide +kernel
theorem dX2_init_9 : decode cX2_init 9 = .ok (.putfield 9, 3) := by decide +kernel
theorem dX2_init_12 : decode cX2_init 12 = .ok (.aload_n 0, 1) := by decide +kernel
theorem dX2_init_13 : decode cX2_init 13 = .ok (.bipush 60, 2) := by decide +kernel
theorem dX2_init_15 : decode cX2_init 15 = .ok (.newarray .int, 2) := by decide +kernel
theorem dX2_init_17 : decode cX2_init 17 = .ok (.putfield 15, 3) := by decide +kernel
theorem dX2_init_20 : decode cX2_init 20 = .ok (.aload_n 0, 1) := by decide +kernel
theorem dX2_init_21 : decode cX2_init 21 = .ok (.bipush 60, 2) := by decide +kernel
theorem dX2_init_23 : decode cX2_init 23 = .ok (.newarray .int, 2) := by decide +kernel
theorem dX2_init_25 : decode cX2_init 25 = .ok (.putfield 18, 3) := by decide +kernel
theorem dX2_init_28 : decode cX2_init 28 = .ok (.aload_n 0, 1) := by decide +kernel
theorem dX2_init_29 : decode cX2_init 29 = .ok (.bipush 60, 2) := by decide +kernel
theorem dX2_init_31 : decode cX2_init 31 = .ok (.newarray .int, 2) := by decide +kernel
theorem dX2_init_33 : decode cX2_init 33 = .ok (.putfield 21, 3) := by decide +kernel
theorem dX2_init_36 : decode cX2_init 36 = .ok (.aload_n 0, 1) := by decide +kernel
theorem dX2_init_37 : decode cX2_init 37 = .ok (.bipush 60, 2) := by decide +kernel
theorem dX2_init_39 : decode cX2_init 39 = .ok (.newarray .int, 2) := by decide +kernel
theorem dX2_init_41 : decode cX2_init 41 = .ok (.putfield 24, 3) := by decide +kernel
theorem dX2_init_44 : decode cX2_init 44 = .ok (.aload_n 0, 1) := by decide +kernel
theorem dX2_init_45 : decode cX2_init 45 = .ok (.iconst 0, 1) := by decide +kernel
theorem dX2_init_46 : decode cX2_init 46 = .ok (.putfield 27, 3) := by decide +kernel
theorem dX2_init_49 : decode cX2_init 49 = .ok (.return_, 1) := by decide +kernel
theorem dX2_become_0 : decode cX2_become 0 = .ok (.aload_n 1, 1) := by decide +kernel
theorem dX2_become_1 : decode cX2_become 1 = .ok (.getfield 9, 3) := by decide +kernel
theorem dX2_become_4 : decode cX2_become 4 = .ok (.iconst 0, 1) := by decide +kernel
theorem dX2_become_5 : decode cX2_become 5 = .ok (.aload_n 0, 1) := by decide +kernel
theorem dX2_become_6 : decode cX2_become 6 = .ok (.getfield 9, 3) := by decide +kernel
theorem dX2_become_9 : decode cX2_become 9 = .ok (.iconst 0, 1) := by decide +kernel
theorem dX2_become_10 : decode cX2_become 10 = .ok (.bipush 60, 2) := by decide +kernel
theorem dX2_become_12 : decode cX2_become 12 = .ok (.invokestatic 31, 3) := by decide +kernel
theorem dX2_become_15 : decode cX2_become 15 = .ok (.aload_n 1, 1) := by decide +kernel
theorem dX2_become_16 : decode cX2_become 16 = .ok (.getfield 15, 3) := by decide +kernel
theorem dX2_become_19 : decode cX2_become 19 = .ok (.iconst 0, 1) := by decide +kernel
theorem dX2_become_20 : decode cX2_become 20 = .ok (.aload_n 0, 1) := by decide +kernel
theorem dX2_become_21 : decode cX2_become 21 = .ok (.getfield 15, 3) := by decide +kernel
theorem dX2_become_24 : decode cX2_become 24 = .ok (.iconst 0, 1) := by decide +kernel
theorem dX2_become_25 : decode cX2_become 25 = .ok (.bipush 60, 2) := by decide +kernel
theorem dX2_become_27 : decode cX2_become 27 = .ok (.invokestatic 31, 3) := by decide +kernel
theorem dX2_become_30 : decode cX2_become 30 = .ok (.aload_n 1, 1) := by decide +kernel
theorem dX2_become_31 : decode cX2_become 31 = .ok (.getfield 18, 3) := by decide +kernel
theorem dX2_become_34 : decode cX2_become 34 = .ok (.iconst 0, 1) := by decide +kernel
theorem dX2_become_35 : decode cX2_become 35 = .ok (.aload_n 0, 1) := by decide +kernel
theorem dX2_become_36 : decode cX2_become 36 = .ok (.getfield 18, 3) := by decide +kernel
theorem dX2_become_39 : decode cX2_become 39 = .ok (.iconst 0, 1) := by decide +kernel
theorem dX2_become_40 : decode cX2_become 40 = .ok (.bipush 60, 2) := by decide +kernel
theorem dX2_become_42 : decode cX2_become 42 = .ok (.invokestatic 31, 3) := by decide +kernel
theorem dX2_become_45 : decode cX2_become 45 = .ok (.aload_n 1, 1) := by decide +kernel
theorem dX2_become_46 : decode cX2_become 46 = .ok (.getfield 21, 3) := by decide +kernel
theorem dX2_become_49 : decode cX2_become 49 = .ok (.iconst 0, 1) := by decide +kernel
theorem dX2_become_50 : decode cX2_become 50 = .ok (.aload_n 0, 1) := by decide +kernel
theorem dX2_become_51 : decode cX2_become 51 = .ok (.getfield 21, 3) := by decide +kernel
theorem dX2_become_54 : decode cX2_become 54 = .ok (.iconst 0, 1) := by decide +kernel
theorem dX2_become_55 : decode cX2_become 55 = .ok (.bipush 60, 2) := by decide +kernel
theorem dX2_become_57 : decode cX2_become 57 = .ok (.invokestatic 31, 3) := by decide +kernel
theorem dX2_become_60 : decode cX2_become 60 = .ok (.aload_n 1, 1) := by decide +kernel
theorem dX2_become_61 : decode cX2_become 61 = .ok (.getfield 24, 3) := by decide +kernel
theorem dX2_become_64 : decode cX2_become 64 = .ok (.iconst 0, 1) := by decide +kernel
theorem dX2_become_65 : decode cX2_become 65 = .ok (.aload_n 0, 1) := by decide +kernel
theorem dX2_become_66 : decode cX2_become 66 = .ok (.getfield 24, 3) := by decide +kernel
theorem dX2_become_69 : decode cX2_become 69 = .ok (.iconst 0, 1) := by decide +kernel
theorem dX2_become_70 : decode cX2_become 70 = .ok (.bipush 60, 2) := by decide +kernel
theorem dX2_become_72 : decode cX2_become 72 = .ok (.invokestatic 31, 3) := by decide +kernel
theorem dX2_become_75 : decode cX2_become 75 = .ok (.aload_n 0, 1) := by decide +kernel
theorem dX2_become_76 : decode cX2_become 76 = .ok (.aload_n 1, 1) := by decide +kernel
theorem dX2_become_77 : decode cX2_become 77 = .ok (.getfield 27, 3) := by decide +kernel
theorem dX2_become_80 : decode cX2_become 80 = .ok (.putfield 27, 3) := by decide +kernel
theorem dX2_become_83 : decode cX2_become 83 = .ok (.return_, 1) := by decide +kernel
theorem dX2_renames_0 : decode cX2_renames 0 = .ok (.aload_n 0, 1) := by decide +kernel
theorem dX2_renames_1 : decode cX2_renames 1 = .ok (.getfield 18, 3) := by decide +kernel
theorem dX2_renames_4 : decode cX2_renames 4 = .ok (.iload_n 1, 1) := by decide +kernel
theorem dX2_renames_5 : decode cX2_renames 5 = .ok (.iaload, 1) := by decide +kernel
theorem dX2_renames_6 : decode cX2_renames 6 = .ok (.iconst (-1), 1) := by decide +kernel
theorem dX2_renames_7 : decode cX2_renames 7 = .ok (.if_icmp .ne 18, 3) := by decide +kernel
theorem dX2_renames_10 : decode cX2_renames 10 = .ok (.aload_n 0, 1) := by decide +kernel
theorem dX2_renames_11 : decode cX2_renames 11 = .ok (.getfield 15, 3) := by decide +kernel
theorem dX2_renames_14 : decode cX2_renames 14 = .ok (.iload_n 1, 1) := by decide +kernel
theorem dX2_renames_15 : decode cX2_renames 15 = .ok (.iaload, 1) := by decide +kernel
theorem dX2_renames_16 : decode cX2_renames 16 = .ok (.bipush 26, 2) := by decide +kernel
theorem dX2_renames_18 : decode cX2_renames 18 = .ok (.if_icmp .ge 7, 3) := by decide +kernel
theorem dX2_renames_21 : decode cX2_renames 21 = .ok (.iconst 1, 1) := by decide +kernel
theorem dX2_renames_22 : decode cX2_renames 22 = .ok (.goto 4, 3) := by decide +kernel
theorem dX2_renames_25 : decode cX2_renames 25 = .ok (.iconst 0, 1) := by decide +kernel
theorem dX2_renames_26 : decode cX2_renames 26 = .ok (.ireturn, 1) := by decide +kernel
theorem dX3_init_0 : decode cX3_init 0 = .ok (.aload_n 0, 1) := by decide +kernel
theorem dX3_init_1 : decode cX3_init 1 = .ok (.invokespecial 3, 3) := by decide +kernel
theorem dX3_init_4 : decode cX3_init 4 = .ok (.aload_n 0, 1) := by decide +kernel
theorem dX3_init_5 : decode cX3_init 5 = .ok (.iconst 0, 1) := by decide +kernel
theorem dX3_init_6 : decode cX3_init 6 = .ok (.putfield 9, 3) := by decide +kernel
theorem dX3_init_9 : decode cX3_init 9 = .ok (.aload_n 0, 1) := by decide +kernel
theorem dX3_init_10 : decode cX3_init 10 = .ok (.iconst 0, 1) := by decide +kernel
theorem dX3_init_11 : decode cX3_init 11 = .ok (.putfield 15, 3) := by decide +kernel
theorem dX3_init_14 : decode cX3_init 14 = .ok (.return_, 1) := by decide +kernel
theorem dX3_change_0 : decode cX3_change 0 = .ok (.iload_n 1, 1) := by decide +kernel
theorem dX3_change_1 : decode cX3_change 1 = .ok (.ifCond .lt 9, 3) := by decide +kernel
theorem dX3_change_4 : decode cX3_change 4 = .ok (.iload_n 1, 1) := by decide +kernel
theorem dX3_change_5 : decode cX3_change 5 = .ok (.bipush 12, 2) := by decide +kernel
theorem dX3_change_7 : decode cX3_change 7 = .ok (.if_icmp .lt 5, 3) := by decide +kernel
theorem dX3_change_10 : decode cX3_change 10 = .ok (.iconst 0, 1) := by decide +kernel
theorem dX3_change_11 : decode cX3_change 11 = .ok (.ireturn, 1) := by decide +kernel
theorem dX3_change_12 : decode cX3_change 12 = .ok (.aload_n 0, 1) := by decide +kernel
theorem dX3_change_13 : decode cX3_change 13 = .ok (.iload_n 1, 1) := by decide +kernel
theorem dX3_change_14 : decode cX3_change 14 = .ok (.putfield 9, 3) := by decide +kernel
theorem dX3_change_17 : decode cX3_change 17 = .ok (.aload_n 0, 1) := by decide +kernel
theorem dX3_change_18 : decode cX3_change 18 = .ok (.iload_n 2, 1) := by decide +kernel
theorem dX3_change_19 : decode cX3_change 19 = .ok (.putfield 15, 3) := by decide +kernel
theorem dX3_change_22 : decode cX3_change 22 = .ok (.iconst 1, 1) := by decide +kernel
theorem dX3_change_23 : decode cX3_change 23 = .ok (.ireturn, 1) := by decide +kernel
theorem dX3_rootOf_0 : decode cX3_rootOf 0 = .ok (.iload_n 1, 1) := by decide +kernel
theorem dX3_rootOf_1 : decode cX3_rootOf 1 = .ok (.ifCond .lt 9, 3) := by decide +kernel
theorem dX3_rootOf_4 : decode cX3_rootOf 4 = .ok (.iload_n 1, 1) := by decide +kernel
theorem dX3_rootOf_5 : decode cX3_rootOf 5 = .ok (.bipush 7, 2) := by decide +kernel
theorem dX3_rootOf_7 : decode cX3_rootOf 7 = .ok (.if_icmp .lt 5, 3) := by decide +kernel
theorem dX3_rootOf_10 : decode cX3_rootOf 10 = .ok (.iconst (-1), 1) := by decide +kernel
theorem dX3_rootOf_11 : decode cX3_rootOf 11 = .ok (.ireturn, 1) := by decide +kernel
theorem dX3_rootOf_12 : decode cX3_rootOf 12 = .ok (.aload_n 0, 1) := by decide +kernel
theorem dX3_rootOf_13 : decode cX3_rootOf 13 = .ok (.getfield 9, 3) := by decide +kernel
theorem dX3_rootOf_16 : decode cX3_rootOf 16 = .ok (.aload_n 0, 1) := by decide +kernel
theorem dX3_rootOf_17 : decode cX3_rootOf 17 = .ok (.getfield 15, 3) := by decide +kernel
theorem dX3_rootOf_20 : decode cX3_rootOf 20 = .ok (.ifCond .eq 11, 3) := by decide +kernel
theorem dX3_rootOf_23 : decode cX3_rootOf 23 = .ok (.getstatic 19, 3) := by decide +kernel
theorem dX3_rootOf_26 : decode cX3_rootOf 26 = .ok (.iload_n 1, 1) := by decide +kernel
theorem dX3_rootOf_27 : decode cX3_rootOf 27 = .ok (.iaload, 1) := by decide +kernel
theorem dX3_rootOf_28 : decode cX3_rootOf 28 = .ok (.goto 8, 3) := by decide +kernel
theorem dX3_rootOf_31 : decode cX3_rootOf 31 = .ok (.getstatic 23, 3) := by decide +kernel
theorem dX3_rootOf_34 : decode cX3_rootOf 34 = .ok (.iload_n 1, 1) := by decide +kernel
theorem dX3_rootOf_35 : decode cX3_rootOf 35 = .ok (.iaload, 1) := by decide +kernel
theorem dX3_rootOf_36 : decode cX3_rootOf 36 = .ok (.iadd, 1) := by decide +kernel
theorem dX3_rootOf_37 : decode cX3_rootOf 37 = .ok (.bipush 12, 2) := by decide +kernel
theorem dX3_rootOf_39 : decode cX3_rootOf 39 = .ok (.irem, 1) := by decide +kernel
theorem dX3_rootOf_40 : decode cX3_rootOf 40 = .ok (.ireturn, 1) := by decide +kernel
theorem dX4_init_0 : decode cX4_init 0 = .ok (.aload_n 0, 1) := by decide +kernel
theorem dX4_init_1 : decode cX4_init 1 = .ok (.invokespecial 3, 3) := by decide +kernel
theorem dX4_init_4 : decode cX4_init 4 = .ok (.aload_n 0, 1) := by decide +kernel
theorem dX4_init_5 : decode cX4_init 5 = .ok (.new 9, 3) := by decide +kernel
theorem dX4_init_8 : decode cX4_init 8 = .ok (.dup, 1) := by decide +kernel
theorem dX4_init_9 : decode cX4_init 9 = .ok (.invokespecial 11, 3) := by decide +kernel
theorem dX4_init_12 : decode cX4_init 12 = .ok (.putfield 12, 3) := by decide +kernel
theorem dX4_init_15 : decode cX4_init 15 = .ok (.aload_n 0, 1) := by decide +kernel
theorem dX4_init_16 : decode cX4_init 16 = .ok (.bipush 60, 2) := by decide +kernel
theorem dX4_init_18 : decode cX4_init 18 = .ok (.newarray .int, 2) := by decide +kernel
theorem dX4_init_20 : decode cX4_init 20 = .ok (.putfield 18, 3) := by decide +kernel
theorem dX4_init_23 : decode cX4_init 23 = .ok (.aload_n 0, 1) := by decide +kernel
theorem dX4_init_24 : decode cX4_init 24 = .ok (.bipush 26, 2) := by decide +kernel
theorem dX4_init_26 : decode cX4_init 26 = .ok (.newarray .int, 2) := by decide +kernel
theorem dX4_init_28 : decode cX4_init 28 = .ok (.putfield 22, 3) := by decide +kernel
theorem dX4_init_31 : decode cX4_init 31 = .ok (.aload_n 0, 1) := by decide +kernel
theorem dX4_init_32 : decode cX4_init 32 = .ok (.iconst 0, 1) := by decide +kernel
theorem dX4_init_33 : decode cX4_init 33 = .ok (.putfield 25, 3) := by decide +kernel
theorem dX4_init_36 : decode cX4_init 36 = .ok (.return_, 1) := by decide +kernel
theorem dX4_readAll_0 : decode cX4_readAll 0 = .ok (.aload_n 0, 1) := by decide +kernel
theorem dX4_readAll_1 : decode cX4_readAll 1 = .ok (.iconst 0, 1) := by decide +kernel
theorem dX4_readAll_2 : decode cX4_readAll 2 = .ok (.putfield 25, 3) := by decide +kernel
theorem dX4_readAll_5 : decode cX4_readAll 5 = .ok (.aload_n 0, 1) := by decide +kernel
theorem dX4_readAll_6 : decode cX4_readAll 6 = .ok (.getfield 12, 3) := by decide +kernel
theorem dX4_readAll_9 : decode cX4_readAll 9 = .ok (.iconst 0, 1) := by decide +kernel
theorem dX4_readAll_10 : decode cX4_readAll 10 = .ok (.putfield 29, 3) := by decide +kernel
theorem dX4_readAll_13 : decode cX4_readAll 13 = .ok (.iconst 0, 1) := by decide +kernel
theorem dX4_readAll_14 : decode cX4_readAll 14 = .ok (.istore_n 2, 1) := by decide +kernel
theorem dX4_readAll_15 : decode cX4_readAll 15 = .ok (.iload_n 2, 1) := by decide +kernel
theorem dX4_readAll_16 : decode cX4_readAll 16 = .ok (.bipush 60, 2) := by decide +kernel
theorem dX4_readAll_18 : decode cX4_readAll 18 = .ok (.if_icmp .gt 38, 3) := by decide +kernel
theorem dX4_readAll_21 : decode cX4_readAll 21 = .ok (.aload_n 0, 1) := by decide +kernel
theorem dX4_readAll_22 : decode cX4_readAll 22 = .ok (.aload_n 1, 1) := by decide +kernel
theorem dX4_readAll_23 : decode cX4_readAll 23 = .ok (.invokevirtual 32, 3) := by decide +kernel
theorem dX4_readAll_26 : decode cX4_readAll 26 = .ok (.iconst (-1), 1) := by decide +kernel
theorem dX4_readAll_27 : decode cX4_readAll 27 = .ok (.if_icmp .ne 10, 3) := by decide +kernel
theorem dX4_readAll_30 : decode cX4_readAll 30 = .ok (.iload_n 2, 1) := by decide +kernel
theorem dX4_readAll_31 : decode cX4_readAll 31 = .ok (.ifCond .le 6, 3) := by decide +kernel
theorem dX4_readAll_34 : decode cX4_readAll 34 = .ok (.goto 22, 3) := by decide +kernel
theorem dX4_readAll_37 : decode cX4_readAll 37 = .ok (.aload_n 0, 1) := by decide +kernel
theorem dX4_readAll_38 : decode cX4_readAll 38 = .ok (.aload_n 1, 1) := by decide +kernel
theorem dX4_readAll_39 : decode cX4_readAll 39 = .ok (.invokevirtual 36, 3) := by decide +kernel
theorem dX4_readAll_42 : decode cX4_readAll 42 = .ok (.ifCond .ne 8, 3) := by decide +kernel
theorem dX4_readAll_45 : decode cX4_readAll 45 = .ok (.aload_n 0, 1) := by decide +kernel
theorem dX4_readAll_46 : decode cX4_readAll 46 = .ok (.getfield 25, 3) := by decide +kernel
theorem dX4_readAll_49 : decode cX4_readAll 49 = .ok (.ireturn, 1) := by decide +kernel
theorem dX4_readAll_50 : decode cX4_readAll 50 = .ok (.iinc 2 1, 3) := by decide +kernel
theorem dX4_readAll_53 : decode cX4_readAll 53 = .ok (.goto (-38), 3) := by decide +kernel
theorem dX4_readAll_56 : decode cX4_readAll 56 = .ok (.aload_n 0, 1) := by decide +kernel
theorem dX4_readAll_57 : decode cX4_readAll 57 = .ok (.invokevirtual 40, 3) := by decide +kernel
theorem dX4_readAll_60 : decode cX4_readAll 60 = .ok (.aload_n 0, 1) := by decide +kernel
theorem dX4_readAll_61 : decode cX4_readAll 61 = .ok (.invokevirtual 43, 3) := by decide +kernel
theorem dX4_readAll_64 : decode cX4_readAll 64 = .ok (.istore_n 2, 1) := by decide +kernel
theorem dX4_readAll_65 : decode cX4_readAll 65 = .ok (.iload_n 2, 1) := by decide +kernel
theorem dX4_readAll_66 : decode cX4_readAll 66 = .ok (.iconst (-1), 1) := by decide +kernel
theorem dX4_readAll_67 : decode cX4_readAll 67 = .ok (.if_icmp .ne 7, 3) := by decide +kernel
theorem dX4_readAll_70 : decode cX4_readAll 70 = .ok (.aload_n 0, 1) := by decide +kernel
theorem dX4_readAll_71 : decode cX4_readAll 71 = .ok (.invokevirtual 47, 3) := by decide +kernel
theorem dX4_readAll_74 : decode cX4_readAll 74 = .ok (.iload_n 2, 1) := by decide +kernel
theorem dX4_readAll_75 : decode cX4_readAll 75 = .ok (.ireturn, 1) := by decide +kernel
theorem dX4_readRule_0 : decode cX4_readRule 0 = .ok (.aload_n 0, 1) := by decide +kernel
theorem dX4_readRule_1 : decode cX4_readRule 1 = .ok (.aload_n 1, 1) := by decide +kernel
theorem dX4_readRule_2 : decode cX4_readRule 2 = .ok (.invokevirtual 32, 3) := by decide +kernel
theorem dX4_readRule_5 : decode cX4_readRule 5 = .ok (.istore_n 2, 1) := by decide +kernel
theorem dX4_readRule_6 : decode cX4_readRule 6 = .ok (.aload_n 0, 1) := by decide +kernel
theorem dX4_readRule_7 : decode cX4_readRule 7 = .ok (.getfield 25, 3) := by decide +kernel
theorem dX4_readRule_10 : decode cX4_readRule 10 = .ok (.istore_n 3, 1) := by decide +kernel
theorem dX4_readRule_11 : decode cX4_readRule 11 = .ok (.iload_n 2, 1) := by decide +kernel
theorem dX4_readRule_12 : decode cX4_readRule 12 = .ok (.invokestatic 50, 3) := by decide +kernel
theorem dX4_readRule_15 : decode cX4_readRule 15 = .ok (.ifCond .eq 15, 3) := by decide +kernel
theorem dX4_readRule_18 : decode cX4_readRule 18 = .ok (.aload_n 0, 1) := by decide +kernel
theorem dX4_readRule_19 : decode cX4_readRule 19 = .ok (.getfield 12, 3) := by decide +kernel
theorem dX4_readRule_22 : decode cX4_readRule 22 = .ok (.getfield 29, 3) := by decide +kernel
theorem dX4_readRule_25 : decode cX4_readRule 25 = .ok (.bipush 60, 2) := by decide +kernel
theorem dX4_readRule_27 : decode cX4_readRule 27 = .ok (.if_icmp .lt 5, 3) := by decide +kernel
theorem dX4_readRule_30 : decode cX4_readRule 30 = .ok (.iconst 0, 1) := by decide +kernel
theorem dX4_readRule_31 : decode cX4_readRule 31 = .ok (.ireturn, 1) := by decide +kernel
theorem dX4_readRule_32 : decode cX4_readRule 32 = .ok (.aload_n 0, 1) := by decide +kernel
theorem dX4_readRule_33 : decode cX4_readRule 33 = .ok (.dup, 1) := by decide +kernel
theorem dX4_readRule_34 : decode cX4_readRule 34 = .ok (.getfield 25, 3) := by decide +kernel
theorem dX4_readRule_37 : decode cX4_readRule 37 = .ok (.iconst 1, 1) := by decide +kernel
theorem dX4_readRule_38 : decode cX4_readRule 38 = .ok (.iadd, 1) := by decide +kernel
theorem dX4_readRule_39 : decode cX4_readRule 39 = .ok (.putfield 25, 3) := by decide +kernel
theorem dX4_readRule_42 : decode cX4_readRule 42 = .ok (.aload_n 0, 1) := by decide +kernel
theorem dX4_readRule_43 : decode cX4_readRule 43 = .ok (.aload_n 1, 1) := by decide +kernel
theorem dX4_readRule_44 : decode cX4_readRule 44 = .ok (.bipush 61, 2) := by decide +kernel
theorem dX4_readRule_46 : decode cX4_readRule 46 = .ok (.invokevirtual 54, 3) := by decide +kernel
theorem dX4_readRule_49 : decode cX4_readRule 49 = .ok (.ifCond .ne 5, 3) := by decide +kernel
theorem dX4_readRule_52 : decode cX4_readRule 52 = .ok (.iconst 0, 1) := by decide +kernel
theorem dX4_readRule_53 : decode cX4_readRule 53 = .ok (.ireturn, 1) := by decide +kernel
theorem dX4_readRule_54 : decode cX4_readRule 54 = .ok (.aload_n 0, 1) := by decide +kernel
theorem dX4_readRule_55 : decode cX4_readRule 55 = .ok (.aload_n 1, 1) := by decide +kernel
theorem dX4_readRule_56 : decode cX4_readRule 56 = .ok (.invokevirtual 58, 3) := by decide +kernel
theorem dX4_readRule_59 : decode cX4_readRule 59 = .ok (.istore 4, 2) := by decide +kernel
theorem dX4_readRule_61 : decode cX4_readRule 61 = .ok (.iload 4, 2) := by decide +kernel
theorem dX4_readRule_63 : decode cX4_readRule 63 = .ok (.iconst (-1), 1) := by decide +kernel
theorem dX4_readRule_64 : decode cX4_readRule 64 = .ok (.if_icmp .ne 5, 3) := by decide +kernel
theorem dX4_readRule_67 : decode cX4_readRule 67 = .ok (.iconst 0, 1) := by decide +kernel
theorem dX4_readRule_68 : decode cX4_readRule 68 = .ok (.ireturn, 1) := by decide +kernel
theorem dX4_readRule_69 : decode cX4_readRule 69 = .ok (.aload_n 0, 1) := by decide +kernel
theorem dX4_readRule_70 : decode cX4_readRule 70 = .ok (.aload_n 1, 1) := by decide +kernel
theorem dX4_readRule_71 : decode cX4_readRule 71 = .ok (.invokevirtual 58, 3) := by decide +kernel
theorem dX4_readRule_74 : decode cX4_readRule 74 = .ok (.istore 5, 2) := by decide +kernel
theorem dX4_readRule_76 : decode cX4_readRule 76 = .ok (.aload_n 0, 1) := by decide +kernel
theorem dX4_readRule_77 : decode cX4_readRule 77 = .ok (.aload_n 1, 1) := by decide +kernel
theorem dX4_readRule_78 : decode cX4_readRule 78 = .ok (.invokevirtual 61, 3) := by decide +kernel
theorem dX4_readRule_81 : decode cX4_readRule 81 = .ok (.istore 6, 2) := by decide +kernel
theorem dX4_readRule_83 : decode cX4_readRule 83 = .ok (.iload 6, 2) := by decide +kernel
theorem dX4_readRule_85 : decode cX4_readRule 85 = .ok (.iconst (-1), 1) := by decide +kernel
theorem dX4_readRule_86 : decode cX4_readRule 86 = .ok (.if_icmp .eq 13, 3) := by decide +kernel
theorem dX4_readRule_89 : decode cX4_readRule 89 = .ok (.aload_n 0, 1) := by decide +kernel
theorem dX4_readRule_90 : decode cX4_readRule 90 = .ok (.aload_n 1, 1) := by decide +kernel
theorem dX4_readRule_91 : decode cX4_readRule 91 = .ok (.bipush 59, 2) := by decide +kernel
theorem dX4_readRule_93 : decode cX4_readRule 93 = .ok (.invokevirtual 54, 3) := by decide +kernel
theorem dX4_readRule_96 : decode cX4_readRule 96 = .ok (.ifCond .ne 5, 3) := by decide +kernel
theorem dX4_readRule_99 : decode cX4_readRule 99 = .ok (.iconst 0, 1) := by decide +kernel
theorem dX4_readRule_100 : decode cX4_readRule 100 = .ok (.ireturn, 1) := by decide +kernel
theorem dX4_readRule_101 : decode cX4_readRule 101 = .ok (.aload_n 0, 1) := by decide +kernel
theorem dX4_readRule_102 : decode cX4_readRule 102 = .ok (.getfield 12, 3) := by decide +kernel
theorem dX4_readRule_105 : decode cX4_readRule 105 = .ok (.getfield 29, 3) := by decide +kernel
theorem dX4_readRule_108 : decode cX4_readRule 108 = .ok (.istore 7, 2) := by decide +kernel
theorem dX4_readRule_110 : decode cX4_readRule 110 = .ok (.aload_n 0, 1) := by decide +kernel
theorem dX4_readRule_111 : decode cX4_readRule 111 = .ok (.getfield 12, 3) := by decide +kernel
theorem dX4_readRule_114 : decode cX4_readRule 114 = .ok (.getfield 64, 3) := by decide +kernel
theorem dX4_readRule_117 : decode cX4_readRule 117 = .ok (.iload 7, 2) := by decide +kernel
theorem dX4_readRule_119 : decode cX4_readRule 119 = .ok (.iload_n 2, 1) := by decide +kernel
theorem dX4_readRule_120 : decode cX4_readRule 120 = .ok (.bipush 65, 2) := by decide +kernel
theorem dX4_readRule_122 : decode cX4_readRule 122 = .ok (.isub, 1) := by decide +kernel
theorem dX4_readRule_123 : decode cX4_readRule 123 = .ok (.iastore, 1) := by decide +kernel
theorem dX4_readRule_124 : decode cX4_readRule 124 = .ok (.aload_n 0, 1) := by decide +kernel
theorem dX4_readRule_125 : decode cX4_readRule 125 = .ok (.getfield 12, 3) := by decide +kernel
theorem dX4_readRule_128 : decode cX4_readRule 128 = .ok (.getfield 67, 3) := by decide +kernel
theorem dX4_readRule_131 : decode cX4_readRule 131 = .ok (.iload 7, 2) := by decide +kernel
theorem dX4_readRule_133 : decode cX4_readRule 133 = .ok (.iload 4, 2) := by decide +kernel
theorem dX4_readRule_135 : decode cX4_readRule 135 = .ok (.iastore, 1) := by decide +kernel
theorem dX4_readRule_136 : decode cX4_readRule 136 = .ok (.aload_n 0, 1) := by decide +kernel
theorem dX4_readRule_137 : decode cX4_readRule 137 = .ok (.getfield 12, 3) := by decide +kernel
theorem dX4_readRule_140 : decode cX4_readRule 140 = .ok (.getfield 70, 3) := by decide +kernel
theorem dX4_readRule_143 : decode cX4_readRule 143 = .ok (.iload 7, 2) := by decide +kernel
theorem dX4_readRule_145 : decode cX4_readRule 145 = .ok (.iload 5, 2) := by decide +kernel
theorem dX4_readRule_147 : decode cX4_readRule 147 = .ok (.iastore, 1) := by decide +kernel
theorem dX4_readRule_148 : decode cX4_readRule 148 = .ok (.aload_n 0, 1) := by decide +kernel
theorem dX4_readRule_149 : decode cX4_readRule 149 = .ok (.getfield 12, 3) := by decide +kernel
theorem dX4_readRule_152 : decode cX4_readRule 152 = .ok (.getfield 73, 3) := by decide +kernel
theorem dX4_readRule_155 : decode cX4_readRule 155 = .ok (.iload 7, 2) := by decide +kernel
theorem dX4_readRule_157 : decode cX4_readRule 157 = .ok (.iload 6, 2) := by decide +kernel
theorem dX4_readRule_159 : decode cX4_readRule 159 = .ok (.iastore, 1) := by decide +kernel
theorem dX4_readRule_160 : decode cX4_readRule 160 = .ok (.aload_n 0, 1) := by decide +kernel
theorem dX4_readRule_161 : decode cX4_readRule 161 = .ok (.getfield 18, 3) := by decide +kernel
theorem dX4_readRule_164 : decode cX4_readRule 164 = .ok (.iload 7, 2) := by decide +kernel
theorem dX4_readRule_166 : decode cX4_readRule 166 = .ok (.iload_n 3, 1) := by decide +kernel
theorem dX4_readRule_167 : decode cX4_readRule 167 = .ok (.iastore, 1) := by decide +kernel
theorem dX4_readRule_168 : decode cX4_readRule 168 = .ok (.aload_n 0, 1) := by decide +kernel
theorem dX4_readRule_169 : decode cX4_readRule 169 = .ok (.getfield 12, 3) := by decide +kernel
theorem dX4_readRule_172 : decode cX4_readRule 172 = .ok (.iload 7, 2) := by decide +kernel
theorem dX4_readRule_174 : decode cX4_readRule 174 = .ok (.iconst 1, 1) := by decide +kernel
theorem dX4_readRule_175 : decode cX4_readRule 175 = .ok (.iadd, 1) := by decide +kernel
theorem dX4_readRule_176 : decode cX4_readRule 176 = .ok (.putfield 29, 3) := by decide +kernel
theorem dX4_readRule_179 : decode cX4_readRule 179 = .ok (.iconst 1, 1) := by decide +kernel
theorem dX4_readRule_180 : decode cX4_readRule 180 = .ok (.ireturn, 1) := by decide +kernel
theorem dX4_readItem_0 : decode cX4_readItem 0 = .ok (.aload_n 0, 1) := by decide +kernel
theorem dX4_readItem_1 : decode cX4_readItem 1 = .ok (.aload_n 1, 1) := by decide +kernel
theorem dX4_readItem_2 : decode cX4_readItem 2 = .ok (.invokevirtual 32, 3) := by decide +kernel
theorem dX4_readItem_5 : decode cX4_readItem 5 = .ok (.istore_n 2, 1) := by decide +kernel
theorem dX4_readItem_6 : decode cX4_readItem 6 = .ok (.iload_n 2, 1) := by decide +kernel
theorem dX4_readItem_7 : decode cX4_readItem 7 = .ok (.invokestatic 50, 3) := by decide +kernel
theorem dX4_readItem_10 : decode cX4_readItem 10 = .ok (.ifCond .eq 18, 3) := by decide +kernel
theorem dX4_readItem_13 : decode cX4_readItem 13 = .ok (.aload_n 0, 1) := by decide +kernel
theorem dX4_readItem_14 : decode cX4_readItem 14 = .ok (.dup, 1) := by decide +kernel
theorem dX4_readItem_15 : decode cX4_readItem 15 = .ok (.getfield 25, 3) := by decide +kernel
theorem dX4_readItem_18 : decode cX4_readItem 18 = .ok (.iconst 1, 1) := by decide +kernel
theorem dX4_readItem_19 : decode cX4_readItem 19 = .ok (.iadd, 1) := by decide +kernel
theorem dX4_readItem_20 : decode cX4_readItem 20 = .ok (.putfield 25, 3) := by decide +kernel
theorem dX4_readItem_23 : decode cX4_readItem 23 = .ok (.iload_n 2, 1) := by decide +kernel
theorem dX4_readItem_24 : decode cX4_readItem 24 = .ok (.bipush 65, 2) := by decide +kernel
theorem dX4_readItem_26 : decode cX4_readItem 26 = .ok (.isub, 1) := by decide +kernel
theorem dX4_readItem_27 : decode cX4_readItem 27 = .ok (.ireturn, 1) := by decide +kernel
theorem dX4_readItem_28 : decode cX4_readItem 28 = .ok (.iload_n 2, 1) := by decide +kernel
theorem dX4_readItem_29 : decode cX4_readItem 29 = .ok (.bipush 49, 2) := by decide +kernel
theorem dX4_readItem_31 : decode cX4_readItem 31 = .ok (.if_icmp .lt 9, 3) := by decide +kernel
theorem dX4_readItem_34 : decode cX4_readItem 34 = .ok (.iload_n 2, 1) := by decide +kernel
theorem dX4_readItem_35 : decode cX4_readItem 35 = .ok (.bipush 55, 2) := by decide +kernel
theorem dX4_readItem_37 : decode cX4_readItem 37 = .ok (.if_icmp .le 5, 3) := by decide +kernel
theorem dX4_readItem_40 : decode cX4_readItem 40 = .ok (.iconst (-1), 1) := by decide +kernel
theorem dX4_readItem_41 : decode cX4_readItem 41 = .ok (.ireturn, 1) := by decide +kernel
theorem dX4_readItem_42 : decode cX4_readItem 42 = .ok (.aload_n 0, 1) := by decide +kernel
theorem dX4_readItem_43 : decode cX4_readItem 43 = .ok (.dup, 1) := by decide +kernel
theorem dX4_readItem_44 : decode cX4_readItem 44 = .ok (.getfield 25, 3) := by decide +kernel
theorem dX4_readItem_47 : decode cX4_readItem 47 = .ok (.iconst 1, 1) := by decide +kernel
theorem dX4_readItem_48 : decode cX4_readItem 48 = .ok (.iadd, 1) := by decide +kernel
theorem dX4_readItem_49 : decode cX4_readItem 49 = .ok (.putfield 25, 3) := by decide +kernel
theorem dX4_readItem_52 : decode cX4_readItem 52 = .ok (.aload_n 1, 1) := by decide +kernel
theorem dX4_readItem_53 : decode cX4_readItem 53 = .ok (.aload_n 0, 1) := by decide +kernel
theorem dX4_readItem_54 : decode cX4_readItem 54 = .ok (.getfield 25, 3) := by decide +kernel
theorem dX4_readItem_57 : decode cX4_readItem 57 = .ok (.invokevirtual 76, 3) := by decide +kernel
theorem dX4_readItem_60 : decode cX4_readItem 60 = .ok (.invokestatic 82, 3) := by decide +kernel
theorem dX4_readItem_63 : decode cX4_readItem 63 = .ok (.istore_n 3, 1) := by decide +kernel
theorem dX4_readItem_64 : decode cX4_readItem 64 = .ok (.iload_n 3, 1) := by decide +kernel
theorem dX4_readItem_65 : decode cX4_readItem 65 = .ok (.iconst (-1), 1) := by decide +kernel
theorem dX4_readItem_66 : decode cX4_readItem 66 = .ok (.if_icmp .ne 9, 3) := by decide +kernel
theorem dX4_readItem_69 : decode cX4_readItem 69 = .ok (.bipush 9, 2) := by decide +kernel
theorem dX4_readItem_71 : decode cX4_readItem 71 = .ok (.istore_n 3, 1) := by decide +kernel
theorem dX4_readItem_72 : decode cX4_readItem 72 = .ok (.goto 13, 3) := by decide +kernel
theorem dX4_readItem_75 : decode cX4_readItem 75 = .ok (.aload_n 0, 1) := by decide +kernel
theorem dX4_readItem_76 : decode cX4_readItem 76 = .ok (.dup, 1) := by decide +kernel
theorem dX4_readItem_77 : decode cX4_readItem 77 = .ok (.getfield 25, 3) := by decide +kernel
theorem dX4_readItem_80 : decode cX4_readItem 80 = .ok (.iconst 1, 1) := by decide +kernel
theorem dX4_readItem_81 : decode cX4_readItem 81 = .ok (.iadd, 1) := by decide +kernel
theorem dX4_readItem_82 : decode cX4_readItem 82 = .ok (.putfield 25, 3) := by decide +kernel
theorem dX4_readItem_85 : decode cX4_readItem 85 = .ok (.bipush 26, 2) := by decide +kernel
theorem dX4_readItem_87 : decode cX4_readItem 87 = .ok (.iload_n 2, 1) := by decide +kernel
theorem dX4_readItem_88 : decode cX4_readItem 88 = .ok (.bipush 49, 2) := by decide +kernel
theorem dX4_readItem_90 : decode cX4_readItem 90 = .ok (.isub, 1) := by decide +kernel
theorem dX4_readItem_91 : decode cX4_readItem 91 = .ok (.bipush 10, 2) := by decide +kernel
theorem dX4_readItem_93 : decode cX4_readItem 93 = .ok (.imul, 1) := by decide +kernel
theorem dX4_readItem_94 : decode cX4_readItem 94 = .ok (.iadd, 1) := by decide +kernel
theorem dX4_readItem_95 : decode cX4_readItem 95 = .ok (.iload_n 3, 1) := by decide +kernel
theorem dX4_readItem_96 : decode cX4_readItem 96 = .ok (.iadd, 1) := by decide +kernel
theorem dX4_readItem_97 : decode cX4_readItem 97 = .ok (.ireturn, 1) := by decide +kernel
theorem dX4_readCost_0 : decode cX4_readCost 0 = .ok (.aload_n 0, 1) := by decide +kernel
theorem dX4_readCost_1 : decode cX4_readCost 1 = .ok (.aload_n 1, 1) := by decide +kernel
theorem dX4_readCost_2 : decode cX4_readCost 2 = .ok (.bipush 58, 2) := by decide +kernel
theorem dX4_readCost_4 : decode cX4_readCost 4 = .ok (.invokevirtual 54, 3) := by decide +kernel
theorem dX4_readCost_7 : decode cX4_readCost 7 = .ok (.ifCond .ne 5, 3) := by decide +kernel
theorem dX4_readCost_10 : decode cX4_readCost 10 = .ok (.iconst 0, 1) := by decide +kernel
theorem dX4_readCost_11 : decode cX4_readCost 11 = .ok (.ireturn, 1) := by decide +kernel
theorem dX4_readCost_12 : decode cX4_readCost 12 = .ok (.aload_n 0, 1) := by decide +kernel
theorem dX4_readCost_13 : decode cX4_readCost 13 = .ok (.aload_n 1, 1) := by decide +kernel
theorem dX4_readCost_14 : decode cX4_readCost 14 = .ok (.invokevirtual 32, 3) := by decide +kernel
theorem dX4_readCost_17 : decode cX4_readCost 17 = .ok (.istore_n 2, 1) := by decide +kernel
theorem dX4_readCost_18 : decode cX4_readCost 18 = .ok (.iload_n 2, 1) := by decide +kernel
theorem dX4_readCost_19 : decode cX4_readCost 19 = .ok (.invokestatic 85, 3) := by decide +kernel
theorem dX4_readCost_22 : decode cX4_readCost 22 = .ok (.ifCond .ne 5, 3) := by decide +kernel
theorem dX4_readCost_25 : decode cX4_readCost 25 = .ok (.iconst (-1), 1) := by decide +kernel
theorem dX4_readCost_26 : decode cX4_readCost 26 = .ok (.ireturn, 1) := by decide +kernel
theorem dX4_readCost_27 : decode cX4_readCost 27 = .ok (.iconst 0, 1) := by decide +kernel
theorem dX4_readCost_28 : decode cX4_readCost 28 = .ok (.istore_n 3, 1) := by decide +kernel
theorem dX4_readCost_29 : decode cX4_readCost 29 = .ok (.iconst 0, 1) := by decide +kernel
theorem dX4_readCost_30 : decode cX4_readCost 30 = .ok (.istore 4, 2) := by decide +kernel
theorem dX4_readCost_32 : decode cX4_readCost 32 = .ok (.iload 4, 2) := by decide +kernel
theorem dX4_readCost_34 : decode cX4_readCost 34 = .ok (.iconst 3, 1) := by decide +kernel
theorem dX4_readCost_35 : decode cX4_readCost 35 = .ok (.if_icmp .ge 45, 3) := by decide +kernel
theorem dX4_readCost_38 : decode cX4_readCost 38 = .ok (.iload_n 2, 1) := by decide +kernel
theorem dX4_readCost_39 : decode cX4_readCost 39 = .ok (.invokestatic 85, 3) := by decide +kernel
theorem dX4_readCost_42 : decode cX4_readCost 42 = .ok (.ifCond .eq 38, 3) := by decide +kernel
theorem dX4_readCost_45 : decode cX4_readCost 45 = .ok (.iload_n 3, 1) := by decide +kernel
theorem dX4_readCost_46 : decode cX4_readCost 46 = .ok (.bipush 10, 2) := by decide +kernel
theorem dX4_readCost_48 : decode cX4_readCost 48 = .ok (.imul, 1) := by decide +kernel
theorem dX4_readCost_49 : decode cX4_readCost 49 = .ok (.iload_n 2, 1) := by decide +kernel
theorem dX4_readCost_50 : decode cX4_readCost 50 = .ok (.iadd, 1) := by decide +kernel
theorem dX4_readCost_51 : decode cX4_readCost 51 = .ok (.bipush 48, 2) := by decide +kernel
theorem dX4_readCost_53 : decode cX4_readCost 53 = .ok (.isub, 1) := by decide +kernel
theorem dX4_readCost_54 : decode cX4_readCost 54 = .ok (.istore_n 3, 1) := by decide +kernel
theorem dX4_readCost_55 : decode cX4_readCost 55 = .ok (.aload_n 0, 1) := by decide +kernel
theorem dX4_readCost_56 : decode cX4_readCost 56 = .ok (.dup, 1) := by decide +kernel
theorem dX4_readCost_57 : decode cX4_readCost 57 = .ok (.getfield 25, 3) := by decide +kernel
theorem dX4_readCost_60 : decode cX4_readCost 60 = .ok (.iconst 1, 1) := by decide +kernel
theorem dX4_readCost_61 : decode cX4_readCost 61 = .ok (.iadd, 1) := by decide +kernel
theorem dX4_readCost_62 : decode cX4_readCost 62 = .ok (.putfield 25, 3) := by decide +kernel
theorem dX4_readCost_65 : decode cX4_readCost 65 = .ok (.aload_n 1, 1) := by decide +kernel
theorem dX4_readCost_66 : decode cX4_readCost 66 = .ok (.aload_n 0, 1) := by decide +kernel
theorem dX4_readCost_67 : decode cX4_readCost 67 = .ok (.getfield 25, 3) := by decide +kernel
theorem dX4_readCost_70 : decode cX4_readCost 70 = .ok (.invokevirtual 76, 3) := by decide +kernel
theorem dX4_readCost_73 : decode cX4_readCost 73 = .ok (.istore_n 2, 1) := by decide +kernel
theorem dX4_readCost_74 : decode cX4_readCost 74 = .ok (.iinc 4 1, 3) := by decide +kernel
theorem dX4_readCost_77 : decode cX4_readCost 77 = .ok (.goto (-45), 3) := by decide +kernel
theorem dX4_readCost_80 : decode cX4_readCost 80 = .ok (.iload_n 3, 1) := by decide +kernel
theorem dX4_readCost_81 : decode cX4_readCost 81 = .ok (.ireturn, 1) := by decide +kernel
theorem dX4_takes_0 : decode cX4_takes 0 = .ok (.aload_n 0, 1) := by decide +kernel
theorem dX4_takes_1 : decode cX4_takes 1 = .ok (.aload_n 1, 1) := by decide +kernel
theorem dX4_takes_2 : decode cX4_takes 2 = .ok (.invokevirtual 32, 3) := by decide +kernel
theorem dX4_takes_5 : decode cX4_takes 5 = .ok (.iload_n 2, 1) := by decide +kernel
theorem dX4_takes_6 : decode cX4_takes 6 = .ok (.if_icmp .ne 7, 3) := by decide +kernel
theorem dX4_takes_9 : decode cX4_takes 9 = .ok (.iconst 1, 1) := by decide +kernel
theorem dX4_takes_10 : decode cX4_takes 10 = .ok (.goto 4, 3) := by decide +kernel
theorem dX4_takes_13 : decode cX4_takes 13 = .ok (.iconst 0, 1) := by decide +kernel
theorem dX4_takes_14 : decode cX4_takes 14 = .ok (.istore_n 3, 1) := by decide +kernel
theorem dX4_takes_15 : decode cX4_takes 15 = .ok (.iload_n 3, 1) := by decide +kernel
theorem dX4_takes_16 : decode cX4_takes 16 = .ok (.ifCond .eq 13, 3) := by decide +kernel
theorem dX4_takes_19 : decode cX4_takes 19 = .ok (.aload_n 0, 1) := by decide +kernel
theorem dX4_takes_20 : decode cX4_takes 20 = .ok (.dup, 1) := by decide +kernel
theorem dX4_takes_21 : decode cX4_takes 21 = .ok (.getfield 25, 3) := by decide +kernel
theorem dX4_takes_24 : decode cX4_takes 24 = .ok (.iconst 1, 1) := by decide +kernel
theorem dX4_takes_25 : decode cX4_takes 25 = .ok (.iadd, 1) := by decide +kernel
theorem dX4_takes_26 : decode cX4_takes 26 = .ok (.putfield 25, 3) := by decide +kernel
theorem dX4_takes_29 : decode cX4_takes 29 = .ok (.iload_n 3, 1) := by decide +kernel
theorem dX4_takes_30 : decode cX4_takes 30 = .ok (.ireturn, 1) := by decide +kernel
theorem dX4_nextOctet_0 : decode cX4_nextOctet 0 = .ok (.aload_n 0, 1) := by decide +kernel
theorem dX4_nextOctet_1 : decode cX4_nextOctet 1 = .ok (.getfield 25, 3) := by decide +kernel
theorem dX4_nextOctet_4 : decode cX4_nextOctet 4 = .ok (.aload_n 1, 1) := by decide +kernel
theorem dX4_nextOctet_5 : decode cX4_nextOctet 5 = .ok (.getfield 88, 3) := by decide +kernel
theorem dX4_nextOctet_8 : decode cX4_nextOctet 8 = .ok (.if_icmp .ge 29, 3) := by decide +kernel
theorem dX4_nextOctet_11 : decode cX4_nextOctet 11 = .ok (.aload_n 1, 1) := by decide +kernel
theorem dX4_nextOctet_12 : decode cX4_nextOctet 12 = .ok (.aload_n 0, 1) := by decide +kernel
theorem dX4_nextOctet_13 : decode cX4_nextOctet 13 = .ok (.getfield 25, 3) := by decide +kernel
theorem dX4_nextOctet_16 : decode cX4_nextOctet 16 = .ok (.invokevirtual 76, 3) := by decide +kernel
theorem dX4_nextOctet_19 : decode cX4_nextOctet 19 = .ok (.bipush 32, 2) := by decide +kernel
theorem dX4_nextOctet_21 : decode cX4_nextOctet 21 = .ok (.if_icmp .ne 16, 3) := by decide +kernel
theorem dX4_nextOctet_24 : decode cX4_nextOctet 24 = .ok (.aload_n 0, 1) := by decide +kernel
theorem dX4_nextOctet_25 : decode cX4_nextOctet 25 = .ok (.dup, 1) := by decide +kernel
theorem dX4_nextOctet_26 : decode cX4_nextOctet 26 = .ok (.getfield 25, 3) := by decide +kernel
theorem dX4_nextOctet_29 : decode cX4_nextOctet 29 = .ok (.iconst 1, 1) := by decide +kernel
theorem dX4_nextOctet_30 : decode cX4_nextOctet 30 = .ok (.iadd, 1) := by decide +kernel
theorem dX4_nextOctet_31 : decode cX4_nextOctet 31 = .ok (.putfield 25, 3) := by decide +kernel
theorem dX4_nextOctet_34 : decode cX4_nextOctet 34 = .ok (.goto (-34), 3) := by decide +kernel
theorem dX4_nextOctet_37 : decode cX4_nextOctet 37 = .ok (.aload_n 1, 1) := by decide +kernel
theorem dX4_nextOctet_38 : decode cX4_nextOctet 38 = .ok (.aload_n 0, 1) := by decide +kernel
theorem dX4_nextOctet_39 : decode cX4_nextOctet 39 = .ok (.getfield 25, 3) := by decide +kernel
theorem dX4_nextOctet_42 : decode cX4_nextOctet 42 = .ok (.invokevirtual 76, 3) := by decide +kernel
theorem dX4_nextOctet_45 : decode cX4_nextOctet 45 = .ok (.ireturn, 1) := by decide +kernel
theorem dX4_isName_0 : decode cX4_isName 0 = .ok (.iload_n 0, 1) := by decide +kernel
theorem dX4_isName_1 : decode cX4_isName 1 = .ok (.bipush 65, 2) := by decide +kernel
theorem dX4_isName_3 : decode cX4_isName 3 = .ok (.if_icmp .lt 13, 3) := by decide +kernel
theorem dX4_isName_6 : decode cX4_isName 6 = .ok (.iload_n 0, 1) := by decide +kernel
theorem dX4_isName_7 : decode cX4_isName 7 = .ok (.bipush 90, 2) := by decide +kernel
theorem dX4_isName_9 : decode cX4_isName 9 = .ok (.if_icmp .gt 7, 3) := by decide +kernel
theorem dX4_isName_12 : decode cX4_isName 12 = .ok (.iconst 1, 1) := by decide +kernel
theorem dX4_isName_13 : decode cX4_isName 13 = .ok (.goto 4, 3) := by decide +kernel
theorem dX4_isName_16 : decode cX4_isName 16 = .ok (.iconst 0, 1) := by decide +kernel
theorem dX4_isName_17 : decode cX4_isName 17 = .ok (.ireturn, 1) := by decide +kernel
theorem dX4_isFigure_0 : decode cX4_isFigure 0 = .ok (.iload_n 0, 1) := by decide +kernel
theorem dX4_isFigure_1 : decode cX4_isFigure 1 = .ok (.bipush 48, 2) := by decide +kernel
theorem dX4_isFigure_3 : decode cX4_isFigure 3 = .ok (.if_icmp .lt 13, 3) := by decide +kernel
theorem dX4_isFigure_6 : decode cX4_isFigure 6 = .ok (.iload_n 0, 1) := by decide +kernel
theorem dX4_isFigure_7 : decode cX4_isFigure 7 = .ok (.bipush 57, 2) := by decide +kernel
theorem dX4_isFigure_9 : decode cX4_isFigure 9 = .ok (.if_icmp .gt 7, 3) := by decide +kernel
theorem dX4_isFigure_12 : decode cX4_isFigure 12 = .ok (.iconst 1, 1) := by decide +kernel
theorem dX4_isFigure_13 : decode cX4_isFigure 13 = .ok (.goto 4, 3) := by decide +kernel
theorem dX4_isFigure_16 : decode cX4_isFigure 16 = .ok (.iconst 0, 1) := by decide +kernel
theorem dX4_isFigure_17 : decode cX4_isFigure 17 = .ok (.ireturn, 1) := by decide +kernel
theorem dX4_kindOf_0 : decode cX4_kindOf 0 = .ok (.iload_n 0, 1) := by decide +kernel
theorem dX4_kindOf_1 : decode cX4_kindOf 1 = .ok (.ifCond .ge 7, 3) := by decide +kernel
theorem dX4_kindOf_4 : decode cX4_kindOf 4 = .ok (.iconst (-1), 1) := by decide +kernel
theorem dX4_kindOf_5 : decode cX4_kindOf 5 = .ok (.goto 10, 3) := by decide +kernel
theorem dX4_kindOf_8 : decode cX4_kindOf 8 = .ok (.ldc 91, 2) := by decide +kernel
theorem dX4_kindOf_10 : decode cX4_kindOf 10 = .ok (.iload_n 0, 1) := by decide +kernel
theorem dX4_kindOf_11 : decode cX4_kindOf 11 = .ok (.i2c, 1) := by decide +kernel
theorem dX4_kindOf_12 : decode cX4_kindOf 12 = .ok (.invokevirtual 93, 3) := by decide +kernel
theorem dX4_kindOf_15 : decode cX4_kindOf 15 = .ok (.ireturn, 1) := by decide +kernel
theorem dX4_findReach_0 : decode cX4_findReach 0 = .ok (.iconst 0, 1) := by decide +kernel
theorem dX4_findReach_1 : decode cX4_findReach 1 = .ok (.istore_n 1, 1) := by decide +kernel
theorem dX4_findReach_2 : decode cX4_findReach 2 = .ok (.iload_n 1, 1) := by decide +kernel
theorem dX4_findReach_3 : decode cX4_findReach 3 = .ok (.bipush 26, 2) := by decide +kernel
theorem dX4_findReach_5 : decode cX4_findReach 5 = .ok (.if_icmp .ge 16, 3) := by decide +kernel
theorem dX4_findReach_8 : decode cX4_findReach 8 = .ok (.aload_n 0, 1) := by decide +kernel
theorem dX4_findReach_9 : decode cX4_findReach 9 = .ok (.getfield 22, 3) := by decide +kernel
theorem dX4_findReach_12 : decode cX4_findReach 12 = .ok (.iload_n 1, 1) := by decide +kernel
theorem dX4_findReach_13 : decode cX4_findReach 13 = .ok (.iconst 0, 1) := by decide +kernel
theorem dX4_findReach_14 : decode cX4_findReach 14 = .ok (.iastore, 1) := by decide +kernel
theorem dX4_findReach_15 : decode cX4_findReach 15 = .ok (.iinc 1 1, 3) := by decide +kernel
theorem dX4_findReach_18 : decode cX4_findReach 18 = .ok (.goto (-16), 3) := by decide +kernel
theorem dX4_findReach_21 : decode cX4_findReach 21 = .ok (.iconst 0, 1) := by decide +kernel
theorem dX4_findReach_22 : decode cX4_findReach 22 = .ok (.istore_n 1, 1) := by decide +kernel
theorem dX4_findReach_23 : decode cX4_findReach 23 = .ok (.iload_n 1, 1) := by decide +kernel
theorem dX4_findReach_24 : decode cX4_findReach 24 = .ok (.aload_n 0, 1) := by decide +kernel
theorem dX4_findReach_25 : decode cX4_findReach 25 = .ok (.getfield 12, 3) := by decide +kernel
theorem dX4_findReach_28 : decode cX4_findReach 28 = .ok (.getfield 29, 3) := by decide +kernel
theorem dX4_findReach_31 : decode cX4_findReach 31 = .ok (.if_icmp .ge 48, 3) := by decide +kernel
theorem dX4_findReach_34 : decode cX4_findReach 34 = .ok (.aload_n 0, 1) := by decide +kernel
theorem dX4_findReach_35 : decode cX4_findReach 35 = .ok (.getfield 12, 3) := by decide +kernel
theorem dX4_findReach_38 : decode cX4_findReach 38 = .ok (.iload_n 1, 1) := by decide +kernel
theorem dX4_findReach_39 : decode cX4_findReach 39 = .ok (.invokevirtual 98, 3) := by decide +kernel
theorem dX4_findReach_42 : decode cX4_findReach 42 = .ok (.ifCond .eq 31, 3) := by decide +kernel
theorem dX4_findReach_45 : decode cX4_findReach 45 = .ok (.aload_n 0, 1) := by decide +kernel
theorem dX4_findReach_46 : decode cX4_findReach 46 = .ok (.getfield 22, 3) := by decide +kernel
theorem dX4_findReach_49 : decode cX4_findReach 49 = .ok (.aload_n 0, 1) := by decide +kernel
theorem dX4_findReach_50 : decode cX4_findReach 50 = .ok (.getfield 12, 3) := by decide +kernel
theorem dX4_findReach_53 : decode cX4_findReach 53 = .ok (.getfield 64, 3) := by decide +kernel
theorem dX4_findReach_56 : decode cX4_findReach 56 = .ok (.iload_n 1, 1) := by decide +kernel
theorem dX4_findReach_57 : decode cX4_findReach 57 = .ok (.iaload, 1) := by decide +kernel
theorem dX4_findReach_58 : decode cX4_findReach 58 = .ok (.dup2, 1) := by decide +kernel
theorem dX4_findReach_59 : decode cX4_findReach 59 = .ok (.iaload, 1) := by decide +kernel
theorem dX4_findReach_60 : decode cX4_findReach 60 = .ok (.iconst 1, 1) := by decide +kernel
theorem dX4_findReach_61 : decode cX4_findReach 61 = .ok (.aload_n 0, 1) := by decide +kernel
theorem dX4_findReach_62 : decode cX4_findReach 62 = .ok (.getfield 12, 3) := by decide +kernel
theorem dX4_findReach_65 : decode cX4_findReach 65 = .ok (.getfield 67, 3) := by decide +kernel
theorem dX4_findReach_68 : decode cX4_findReach 68 = .ok (.iload_n 1, 1) := by decide +kernel
theorem dX4_findReach_69 : decode cX4_findReach 69 = .ok (.iaload, 1) := by decide +kernel
theorem dX4_findReach_70 : decode cX4_findReach 70 = .ok (.ishl, 1) := by decide +kernel
theorem dX4_findReach_71 : decode cX4_findReach 71 = .ok (.ior, 1) := by decide +kernel
theorem dX4_findReach_72 : decode cX4_findReach 72 = .ok (.iastore, 1) := by decide +kernel
theorem dX4_findReach_73 : decode cX4_findReach 73 = .ok (.iinc 1 1, 3) := by decide +kernel
theorem dX4_findReach_76 : decode cX4_findReach 76 = .ok (.goto (-53), 3) := by decide +kernel
theorem dX4_findReach_79 : decode cX4_findReach 79 = .ok (.iconst 0, 1) := by decide +kernel
theorem dX4_findReach_80 : decode cX4_findReach 80 = .ok (.istore_n 1, 1) := by decide +kernel
theorem dX4_findReach_81 : decode cX4_findReach 81 = .ok (.iload_n 1, 1) := by decide +kernel
theorem dX4_findReach_82 : decode cX4_findReach 82 = .ok (.bipush 26, 2) := by decide +kernel
theorem dX4_findReach_84 : decode cX4_findReach 84 = .ok (.if_icmp .ge 47, 3) := by decide +kernel
theorem dX4_findReach_87 : decode cX4_findReach 87 = .ok (.iconst 0, 1) := by decide +kernel
theorem dX4_findReach_88 : decode cX4_findReach 88 = .ok (.istore_n 2, 1) := by decide +kernel
theorem dX4_findReach_89 : decode cX4_findReach 89 = .ok (.iload_n 2, 1) := by decide +kernel
theorem dX4_findReach_90 : decode cX4_findReach 90 = .ok (.bipush 26, 2) := by decide +kernel
theorem dX4_findReach_92 : decode cX4_findReach 92 = .ok (.if_icmp .ge 33, 3) := by decide +kernel
theorem dX4_findReach_95 : decode cX4_findReach 95 = .ok (.aload_n 0, 1) := by decide +kernel
theorem dX4_findReach_96 : decode cX4_findReach 96 = .ok (.iload_n 2, 1) := by decide +kernel
theorem dX4_findReach_97 : decode cX4_findReach 97 = .ok (.iload_n 1, 1) := by decide +kernel
theorem dX4_findReach_98 : decode cX4_findReach 98 = .ok (.invokevirtual 101, 3) := by decide +kernel
theorem dX4_findReach_101 : decode cX4_findReach 101 = .ok (.ifCond .eq 18, 3) := by decide +kernel
theorem dX4_findReach_104 : decode cX4_findReach 104 = .ok (.aload_n 0, 1) := by decide +kernel
theorem dX4_findReach_105 : decode cX4_findReach 105 = .ok (.getfield 22, 3) := by decide +kernel
theorem dX4_findReach_108 : decode cX4_findReach 108 = .ok (.iload_n 2, 1) := by decide +kernel
theorem dX4_findReach_109 : decode cX4_findReach 109 = .ok (.dup2, 1) := by decide +kernel
theorem dX4_findReach_110 : decode cX4_findReach 110 = .ok (.iaload, 1) := by decide +kernel
theorem dX4_findReach_111 : decode cX4_findReach 111 = .ok (.aload_n 0, 1) := by decide +kernel
theorem dX4_findReach_112 : decode cX4_findReach 112 = .ok (.getfield 22, 3) := by decide +kernel
theorem dX4_findReach_115 : decode cX4_findReach 115 = .ok (.iload_n 1, 1) := by decide +kernel
theorem dX4_findReach_116 : decode cX4_findReach 116 = .ok (.iaload, 1) := by decide +kernel
theorem dX4_findReach_117 : decode cX4_findReach 117 = .ok (.ior, 1) := by decide +kernel
theorem dX4_findReach_118 : decode cX4_findReach 118 = .ok (.iastore, 1) := by decide +kernel
theorem dX4_findReach_119 : decode cX4_findReach 119 = .ok (.iinc 2 1, 3) := by decide +kernel
theorem dX4_findReach_122 : decode cX4_findReach 122 = .ok (.goto (-33), 3) := by decide +kernel
theorem dX4_findReach_125 : decode cX4_findReach 125 = .ok (.iinc 1 1, 3) := by decide +kernel
theorem dX4_findReach_128 : decode cX4_findReach 128 = .ok (.goto (-47), 3) := by decide +kernel
theorem dX4_findReach_131 : decode cX4_findReach 131 = .ok (.return_, 1) := by decide +kernel
theorem dX4_reaches_0 : decode cX4_reaches 0 = .ok (.aload_n 0, 1) := by decide +kernel
theorem dX4_reaches_1 : decode cX4_reaches 1 = .ok (.getfield 22, 3) := by decide +kernel
theorem dX4_reaches_4 : decode cX4_reaches 4 = .ok (.iload_n 1, 1) := by decide +kernel
theorem dX4_reaches_5 : decode cX4_reaches 5 = .ok (.iaload, 1) := by decide +kernel
theorem dX4_reaches_6 : decode cX4_reaches 6 = .ok (.iload_n 2, 1) := by decide +kernel
theorem dX4_reaches_7 : decode cX4_reaches 7 = .ok (.iushr, 1) := by decide +kernel
theorem dX4_reaches_8 : decode cX4_reaches 8 = .ok (.iconst 1, 1) := by decide +kernel
theorem dX4_reaches_9 : decode cX4_reaches 9 = .ok (.iand, 1) := by decide +kernel
theorem dX4_reaches_10 : decode cX4_reaches 10 = .ok (.ifCond .eq 7, 3) := by decide +kernel
theorem dX4_reaches_13 : decode cX4_reaches 13 = .ok (.iconst 1, 1) := by decide +kernel
theorem dX4_reaches_14 : decode cX4_reaches 14 = .ok (.goto 4, 3) := by decide +kernel
theorem dX4_reaches_17 : decode cX4_reaches 17 = .ok (.iconst 0, 1) := by decide +kernel
theorem dX4_reaches_18 : decode cX4_reaches 18 = .ok (.ireturn, 1) := by decide +kernel
theorem dX4_ringPlace_0 : decode cX4_ringPlace 0 = .ok (.iconst 0, 1) := by decide +kernel
theorem dX4_ringPlace_1 : decode cX4_ringPlace 1 = .ok (.istore_n 1, 1) := by decide +kernel
theorem dX4_ringPlace_2 : decode cX4_ringPlace 2 = .ok (.iload_n 1, 1) := by decide +kernel
theorem dX4_ringPlace_3 : decode cX4_ringPlace 3 = .ok (.aload_n 0, 1) := by decide +kernel
theorem dX4_ringPlace_4 : decode cX4_ringPlace 4 = .ok (.getfield 12, 3) := by decide +kernel
theorem dX4_ringPlace_7 : decode cX4_ringPlace 7 = .ok (.getfield 29, 3) := by decide +kernel
theorem dX4_ringPlace_10 : decode cX4_ringPlace 10 = .ok (.if_icmp .ge 52, 3) := by decide +kernel
theorem dX4_ringPlace_13 : decode cX4_ringPlace 13 = .ok (.aload_n 0, 1) := by decide +kernel
theorem dX4_ringPlace_14 : decode cX4_ringPlace 14 = .ok (.getfield 12, 3) := by decide +kernel
theorem dX4_ringPlace_17 : decode cX4_ringPlace 17 = .ok (.iload_n 1, 1) := by decide +kernel
theorem dX4_ringPlace_18 : decode cX4_ringPlace 18 = .ok (.invokevirtual 98, 3) := by decide +kernel
theorem dX4_ringPlace_21 : decode cX4_ringPlace 21 = .ok (.ifCond .eq 35, 3) := by decide +kernel
theorem dX4_ringPlace_24 : decode cX4_ringPlace 24 = .ok (.aload_n 0, 1) := by decide +kernel
theorem dX4_ringPlace_25 : decode cX4_ringPlace 25 = .ok (.aload_n 0, 1) := by decide +kernel
theorem dX4_ringPlace_26 : decode cX4_ringPlace 26 = .ok (.getfield 12, 3) := by decide +kernel
theorem dX4_ringPlace_29 : decode cX4_ringPlace 29 = .ok (.getfield 67, 3) := by decide +kernel
theorem dX4_ringPlace_32 : decode cX4_ringPlace 32 = .ok (.iload_n 1, 1) := by decide +kernel
theorem dX4_ringPlace_33 : decode cX4_ringPlace 33 = .ok (.iaload, 1) := by decide +kernel
theorem dX4_ringPlace_34 : decode cX4_ringPlace 34 = .ok (.aload_n 0, 1) := by decide +kernel
theorem dX4_ringPlace_35 : decode cX4_ringPlace 35 = .ok (.getfield 12, 3) := by decide +kernel
theorem dX4_ringPlace_38 : decode cX4_ringPlace 38 = .ok (.getfield 64, 3) := by decide +kernel
theorem dX4_ringPlace_41 : decode cX4_ringPlace 41 = .ok (.iload_n 1, 1) := by decide +kernel
theorem dX4_ringPlace_42 : decode cX4_ringPlace 42 = .ok (.iaload, 1) := by decide +kernel
theorem dX4_ringPlace_43 : decode cX4_ringPlace 43 = .ok (.invokevirtual 101, 3) := by decide +kernel
theorem dX4_ringPlace_46 : decode cX4_ringPlace 46 = .ok (.ifCond .eq 10, 3) := by decide +kernel
theorem dX4_ringPlace_49 : decode cX4_ringPlace 49 = .ok (.aload_n 0, 1) := by decide +kernel
theorem dX4_ringPlace_50 : decode cX4_ringPlace 50 = .ok (.getfield 18, 3) := by decide +kernel
theorem dX4_ringPlace_53 : decode cX4_ringPlace 53 = .ok (.iload_n 1, 1) := by decide +kernel
theorem dX4_ringPlace_54 : decode cX4_ringPlace 54 = .ok (.iaload, 1) := by decide +kernel
theorem dX4_ringPlace_55 : decode cX4_ringPlace 55 = .ok (.ireturn, 1) := by decide +kernel
theorem dX4_ringPlace_56 : decode cX4_ringPlace 56 = .ok (.iinc 1 1, 3) := by decide +kernel
theorem dX4_ringPlace_59 : decode cX4_ringPlace 59 = .ok (.goto (-57), 3) := by decide +kernel
theorem dX4_ringPlace_62 : decode cX4_ringPlace 62 = .ok (.iconst (-1), 1) := by decide +kernel
theorem dX4_ringPlace_63 : decode cX4_ringPlace 63 = .ok (.ireturn, 1) := by decide +kernel
theorem dX4_arrange_0 : decode cX4_arrange 0 = .ok (.iconst 0, 1) := by decide +kernel
theorem dX4_arrange_1 : decode cX4_arrange 1 = .ok (.istore_n 1, 1) := by decide +kernel
theorem dX4_arrange_2 : decode cX4_arrange 2 = .ok (.iconst 0, 1) := by decide +kernel
theorem dX4_arrange_3 : decode cX4_arrange 3 = .ok (.istore_n 2, 1) := by decide +kernel
theorem dX4_arrange_4 : decode cX4_arrange 4 = .ok (.iload_n 2, 1) := by decide +kernel
theorem dX4_arrange_5 : decode cX4_arrange 5 = .ok (.bipush 26, 2) := by decide +kernel
theorem dX4_arrange_7 : decode cX4_arrange 7 = .ok (.if_icmp .ge 68, 3) := by decide +kernel
theorem dX4_arrange_10 : decode cX4_arrange 10 = .ok (.iconst 0, 1) := by decide +kernel
theorem dX4_arrange_11 : decode cX4_arrange 11 = .ok (.istore_n 3, 1) := by decide +kernel
theorem dX4_arrange_12 : decode cX4_arrange 12 = .ok (.iload_n 3, 1) := by decide +kernel
theorem dX4_arrange_13 : decode cX4_arrange 13 = .ok (.aload_n 0, 1) := by decide +kernel
theorem dX4_arrange_14 : decode cX4_arrange 14 = .ok (.getfield 12, 3) := by decide +kernel
theorem dX4_arrange_17 : decode cX4_arrange 17 = .ok (.getfield 29, 3) := by decide +kernel
theorem dX4_arrange_20 : decode cX4_arrange 20 = .ok (.if_icmp .ge 49, 3) := by decide +kernel
theorem dX4_arrange_23 : decode cX4_arrange 23 = .ok (.iload_n 1, 1) := by decide +kernel
theorem dX4_arrange_24 : decode cX4_arrange 24 = .ok (.bipush 60, 2) := by decide +kernel
theorem dX4_arrange_26 : decode cX4_arrange 26 = .ok (.if_icmp .ge 37, 3) := by decide +kernel
theorem dX4_arrange_29 : decode cX4_arrange 29 = .ok (.aload_n 0, 1) := by decide +kernel
theorem dX4_arrange_30 : decode cX4_arrange 30 = .ok (.getfield 22, 3) := by decide +kernel
theorem dX4_arrange_33 : decode cX4_arrange 33 = .ok (.aload_n 0, 1) := by decide +kernel
theorem dX4_arrange_34 : decode cX4_arrange 34 = .ok (.getfield 12, 3) := by decide +kernel
theorem dX4_arrange_37 : decode cX4_arrange 37 = .ok (.getfield 64, 3) := by decide +kernel
theorem dX4_arrange_40 : decode cX4_arrange 40 = .ok (.iload_n 3, 1) := by decide +kernel
theorem dX4_arrange_41 : decode cX4_arrange 41 = .ok (.iaload, 1) := by decide +kernel
theorem dX4_arrange_42 : decode cX4_arrange 42 = .ok (.iaload, 1) := by decide +kernel
theorem dX4_arrange_43 : decode cX4_arrange 43 = .ok (.invokestatic 105, 3) := by decide +kernel
theorem dX4_arrange_46 : decode cX4_arrange 46 = .ok (.iload_n 2, 1) := by decide +kernel
theorem dX4_arrange_47 : decode cX4_arrange 47 = .ok (.if_icmp .ne 16, 3) := by decide +kernel
theorem dX4_arrange_50 : decode cX4_arrange 50 = .ok (.aload_n 0, 1) := by decide +kernel
theorem dX4_arrange_51 : decode cX4_arrange 51 = .ok (.getfield 12, 3) := by decide +kernel
theorem dX4_arrange_54 : decode cX4_arrange 54 = .ok (.getfield 110, 3) := by decide +kernel
theorem dX4_arrange_57 : decode cX4_arrange 57 = .ok (.iload_n 1, 1) := by decide +kernel
theorem dX4_arrange_58 : decode cX4_arrange 58 = .ok (.iload_n 3, 1) := by decide +kernel
theorem dX4_arrange_59 : decode cX4_arrange 59 = .ok (.iastore, 1) := by decide +kernel
theorem dX4_arrange_60 : decode cX4_arrange 60 = .ok (.iinc 1 1, 3) := by decide +kernel
theorem dX4_arrange_63 : decode cX4_arrange 63 = .ok (.iinc 3 1, 3) := by decide +kernel
theorem dX4_arrange_66 : decode cX4_arrange 66 = .ok (.goto (-54), 3) := by decide +kernel
theorem dX4_arrange_69 : decode cX4_arrange 69 = .ok (.iinc 2 1, 3) := by decide +kernel
theorem dX4_arrange_72 : decode cX4_arrange 72 = .ok (.goto (-68), 3) := by decide +kernel
theorem dX4_arrange_75 : decode cX4_arrange 75 = .ok (.return_, 1) := by decide +kernel
theorem dX5_init_0 : decode cX5_init 0 = .ok (.aload_n 0, 1) := by decide +kernel
theorem dX5_init_1 : decode cX5_init 1 = .ok (.invokespecial 3, 3) := by decide +kernel
theorem dX5_init_4 : decode cX5_init 4 = .ok (.aload_n 0, 1) := by decide +kernel
theorem dX5_init_5 : decode cX5_init 5 = .ok (.bipush 24, 2) := by decide +kernel
theorem dX5_init_7 : decode cX5_init 7 = .ok (.newarray .int, 2) := by decide +kernel
theorem dX5_init_9 : decode cX5_init 9 = .ok (.putfield 9, 3) := by decide +kernel
theorem dX5_init_12 : decode cX5_init 12 = .ok (.aload_n 0, 1) := by decide +kernel
theorem dX5_init_13 : decode cX5_init 13 = .ok (.bipush 24, 2) := by decide +kernel
theorem dX5_init_15 : decode cX5_init 15 = .ok (.newarray .int, 2) := by decide +kernel
theorem dX5_init_17 : decode cX5_init 17 = .ok (.putfield 15, 3) := by decide +kernel
theorem dX5_init_20 : decode cX5_init 20 = .ok (.aload_n 0, 1) := by decide +kernel
theorem dX5_init_21 : decode cX5_init 21 = .ok (.bipush 24, 2) := by decide +kernel
theorem dX5_init_23 : decode cX5_init 23 = .ok (.newarray .int, 2) := by decide +kernel
theorem dX5_init_25 : decode cX5_init 25 = .ok (.putfield 18, 3) := by decide +kernel
theorem dX5_init_28 : decode cX5_init 28 = .ok (.aload_n 0, 1) := by decide +kernel
theorem dX5_init_29 : decode cX5_init 29 = .ok (.iconst 0, 1) := by decide +kernel
theorem dX5_init_30 : decode cX5_init 30 = .ok (.putfield 21, 3) := by decide +kernel
theorem dX5_init_33 : decode cX5_init 33 = .ok (.return_, 1) := by decide +kernel
theorem dX5_has_0 : decode cX5_has 0 = .ok (.iload_n 1, 1) := by decide +kernel
theorem dX5_has_1 : decode cX5_has 1 = .ok (.ifCond .lt 15, 3) := by decide +kernel
theorem dX5_has_4 : decode cX5_has 4 = .ok (.iload_n 1, 1) := by decide +kernel
theorem dX5_has_5 : decode cX5_has 5 = .ok (.aload_n 0, 1) := by decide +kernel
theorem dX5_has_6 : decode cX5_has 6 = .ok (.getfield 21, 3) := by decide +kernel
theorem dX5_has_9 : decode cX5_has 9 = .ok (.if_icmp .ge 7, 3) := by decide +kernel
theorem dX5_has_12 : decode cX5_has 12 = .ok (.iconst 1, 1) := by decide +kernel
theorem dX5_has_13 : decode cX5_has 13 = .ok (.goto 4, 3) := by decide +kernel
theorem dX5_has_16 : decode cX5_has 16 = .ok (.iconst 0, 1) := by decide +kernel
theorem dX5_has_17 : decode cX5_has 17 = .ok (.ireturn, 1) := by decide +kernel
theorem dX5_add_0 : decode cX5_add 0 = .ok (.aload_n 0, 1) := by decide +kernel
theorem dX5_add_1 : decode cX5_add 1 = .ok (.getfield 21, 3) := by decide +kernel
theorem dX5_add_4 : decode cX5_add 4 = .ok (.bipush 24, 2) := by decide +kernel
theorem dX5_add_6 : decode cX5_add 6 = .ok (.if_icmp .ge 26, 3) := by decide +kernel
theorem dX5_add_9 : decode cX5_add 9 = .ok (.iload_n 1, 1) := by decide +kernel
theorem dX5_add_10 : decode cX5_add 10 = .ok (.iconst 1, 1) := by decide +kernel
theorem dX5_add_11 : decode cX5_add 11 = .ok (.if_icmp .lt 21, 3) := by decide +kernel
theorem dX5_add_14 : decode cX5_add 14 = .ok (.iload_n 1, 1) := by decide +kernel
theorem dX5_add_15 : decode cX5_add 15 = .ok (.sipush 4095, 3) := by decide +kernel
theorem dX5_add_18 : decode cX5_add 18 = .ok (.if_icmp .gt 14, 3) := by decide +kernel
theorem dX5_add_21 : decode cX5_add 21 = .ok (.iload_n 3, 1) := by decide +kernel
theorem dX5_add_22 : decode cX5_add 22 = .ok (.iconst (-1), 1) := by decide +kernel
theorem dX5_add_23 : decode cX5_add 23 = .ok (.if_icmp .lt 9, 3) := by decide +kernel
theorem dX5_add_26 : decode cX5_add 26 = .ok (.iload_n 3, 1) := by decide +kernel
theorem dX5_add_27 : decode cX5_add 27 = .ok (.bipush 127, 2) := by decide +kernel
theorem dX5_add_29 : decode cX5_add 29 = .ok (.if_icmp .le 5, 3) := by decide +kernel
theorem dX5_add_32 : decode cX5_add 32 = .ok (.iconst (-1), 1) := by decide +kernel
theorem dX5_add_33 : decode cX5_add 33 = .ok (.ireturn, 1) := by decide +kernel
theorem dX5_add_34 : decode cX5_add 34 = .ok (.iload_n 2, 1) := by decide +kernel
theorem dX5_add_35 : decode cX5_add 35 = .ok (.iconst (-1), 1) := by decide +kernel
theorem dX5_add_36 : decode cX5_add 36 = .ok (.if_icmp .eq 23, 3) := by decide +kernel
theorem dX5_add_39 : decode cX5_add 39 = .ok (.iload_n 2, 1) := by decide +kernel
theorem dX5_add_40 : decode cX5_add 40 = .ok (.ifCond .lt 17, 3) := by decide +kernel
theorem dX5_add_43 : decode cX5_add 43 = .ok (.iload_n 2, 1) := by decide +kernel
theorem dX5_add_44 : decode cX5_add 44 = .ok (.bipush 12, 2) := by decide +kernel
theorem dX5_add_46 : decode cX5_add 46 = .ok (.if_icmp .ge 11, 3) := by decide +kernel
theorem dX5_add_49 : decode cX5_add 49 = .ok (.iload_n 1, 1) := by decide +kernel
theorem dX5_add_50 : decode cX5_add 50 = .ok (.iload_n 2, 1) := by decide +kernel
theorem dX5_add_51 : decode cX5_add 51 = .ok (.iushr, 1) := by decide +kernel
theorem dX5_add_52 : decode cX5_add 52 = .ok (.iconst 1, 1) := by decide +kernel
theorem dX5_add_53 : decode cX5_add 53 = .ok (.iand, 1) := by decide +kernel
theorem dX5_add_54 : decode cX5_add 54 = .ok (.ifCond .ne 5, 3) := by decide +kernel
theorem dX5_add_57 : decode cX5_add 57 = .ok (.iconst (-1), 1) := by decide +kernel
theorem dX5_add_58 : decode cX5_add 58 = .ok (.ireturn, 1) := by decide +kernel
theorem dX5_add_59 : decode cX5_add 59 = .ok (.aload_n 0, 1) := by decide +kernel
theorem dX5_add_60 : decode cX5_add 60 = .ok (.getfield 9, 3) := by decide +kernel
theorem dX5_add_63 : decode cX5_add 63 = .ok (.aload_n 0, 1) := by decide +kernel
theorem dX5_add_64 : decode cX5_add 64 = .ok (.getfield 21, 3) := by decide +kernel
theorem dX5_add_67 : decode cX5_add 67 = .ok (.iload_n 1, 1) := by decide +kernel
theorem dX5_add_68 : decode cX5_add 68 = .ok (.iastore, 1) := by decide +kernel
theorem dX5_add_69 : decode cX5_add 69 = .ok (.aload_n 0, 1) := by decide +kernel
theorem dX5_add_70 : decode cX5_add 70 = .ok (.getfield 15, 3) := by decide +kernel
theorem dX5_add_73 : decode cX5_add 73 = .ok (.aload_n 0, 1) := by decide +kernel
theorem dX5_add_74 : decode cX5_add 74 = .ok (.getfield 21, 3) := by decide +kernel
theorem dX5_add_77 : decode cX5_add 77 = .ok (.iload_n 2, 1) := by decide +kernel
theorem dX5_add_78 : decode cX5_add 78 = .ok (.iastore, 1) := by decide +kernel
theorem dX5_add_79 : decode cX5_add 79 = .ok (.aload_n 0, 1) := by decide +kernel
theorem dX5_add_80 : decode cX5_add 80 = .ok (.getfield 18, 3) := by decide +kernel
theorem dX5_add_83 : decode cX5_add 83 = .ok (.aload_n 0, 1) := by decide +kernel
theorem dX5_add_84 : decode cX5_add 84 = .ok (.getfield 21, 3) := by decide +kernel
theorem dX5_add_87 : decode cX5_add 87 = .ok (.iload_n 3, 1) := by decide +kernel
theorem dX5_add_88 : decode cX5_add 88 = .ok (.iastore, 1) := by decide +kernel
theorem dX5_add_89 : decode cX5_add 89 = .ok (.aload_n 0, 1) := by decide +kernel
theorem dX5_add_90 : decode cX5_add 90 = .ok (.dup, 1) := by decide +kernel
theorem dX5_add_91 : decode cX5_add 91 = .ok (.getfield 21, 3) := by decide +kernel
theorem dX5_add_94 : decode cX5_add 94 = .ok (.iconst 1, 1) := by decide +kernel
theorem dX5_add_95 : decode cX5_add 95 = .ok (.iadd, 1) := by decide +kernel
theorem dX5_add_96 : decode cX5_add 96 = .ok (.putfield 21, 3) := by decide +kernel
theorem dX5_add_99 : decode cX5_add 99 = .ok (.aload_n 0, 1) := by decide +kernel
theorem dX5_add_100 : decode cX5_add 100 = .ok (.getfield 21, 3) := by decide +kernel
theorem dX5_add_103 : decode cX5_add 103 = .ok (.iconst 1, 1) := by decide +kernel
theorem dX5_add_104 : decode cX5_add 104 = .ok (.isub, 1) := by decide +kernel
theorem dX5_add_105 : decode cX5_add 105 = .ok (.ireturn, 1) := by decide +kernel
theorem dX6_init_0 : decode cX6_init 0 = .ok (.aload_n 0, 1) := by decide +kernel
theorem dX6_init_1 : decode cX6_init 1 = .ok (.invokespecial 3, 3) := by decide +kernel
theorem dX6_init_4 : decode cX6_init 4 = .ok (.aload_n 0, 1) := by decide +kernel
theorem dX6_init_5 : decode cX6_init 5 = .ok (.sipush 1680, 3) := by decide +kernel
theorem dX6_init_8 : decode cX6_init 8 = .ok (.newarray .int, 2) := by decide +kernel
theorem dX6_init_10 : decode cX6_init 10 = .ok (.putfield 9, 3) := by decide +kernel
theorem dX6_init_13 : decode cX6_init 13 = .ok (.aload_n 0, 1) := by decide +kernel
theorem dX6_init_14 : decode cX6_init 14 = .ok (.sipush 1680, 3) := by decide +kernel
theorem dX6_init_17 : decode cX6_init 17 = .ok (.newarray .int, 2) := by decide +kernel
theorem dX6_init_19 : decode cX6_init 19 = .ok (.putfield 15, 3) := by decide +kernel
theorem dX6_init_22 : decode cX6_init 22 = .ok (.return_, 1) := by decide +kernel
theorem dX6_fill_0 : decode cX6_fill 0 = .ok (.iconst 0, 1) := by decide +kernel
theorem dX6_fill_1 : decode cX6_fill 1 = .ok (.istore 4, 2) := by decide +kernel
theorem dX6_fill_3 : decode cX6_fill 3 = .ok (.iload 4, 2) := by decide +kernel
theorem dX6_fill_5 : decode cX6_fill 5 = .ok (.aload_n 1, 1) := by decide +kernel
theorem dX6_fill_6 : decode cX6_fill 6 = .ok (.getfield 18, 3) := by decide +kernel
theorem dX6_fill_9 : decode cX6_fill 9 = .ok (.if_icmp .ge 41, 3) := by decide +kernel
theorem dX6_fill_12 : decode cX6_fill 12 = .ok (.iconst 0, 1) := by decide +kernel
theorem dX6_fill_13 : decode cX6_fill 13 = .ok (.istore 5, 2) := by decide +kernel
theorem dX6_fill_15 : decode cX6_fill 15 = .ok (.iload 5, 2) := by decide +kernel
theorem dX6_fill_17 : decode cX6_fill 17 = .ok (.bipush 7, 2) := by decide +kernel
theorem dX6_fill_19 : decode cX6_fill 19 = .ok (.if_icmp .ge 25, 3) := by decide +kernel
theorem dX6_fill_22 : decode cX6_fill 22 = .ok (.aload_n 0, 1) := by decide +kernel
theorem dX6_fill_23 : decode cX6_fill 23 = .ok (.aload_n 1, 1) := by decide +kernel
theorem dX6_fill_24 : decode cX6_fill 24 = .ok (.iload 4, 2) := by decide +kernel
theorem dX6_fill_26 : decode cX6_fill 26 = .ok (.iload 5, 2) := by decide +kernel
theorem dX6_fill_28 : decode cX6_fill 28 = .ok (.aload_n 2, 1) := by decide +kernel
theorem dX6_fill_29 : decode cX6_fill 29 = .ok (.iload 5, 2) := by decide +kernel
theorem dX6_fill_31 : decode cX6_fill 31 = .ok (.invokevirtual 24, 3) := by decide +kernel
theorem dX6_fill_34 : decode cX6_fill 34 = .ok (.aload_n 3, 1) := by decide +kernel
theorem dX6_fill_35 : decode cX6_fill 35 = .ok (.invokevirtual 30, 3) := by decide +kernel
theorem dX6_fill_38 : decode cX6_fill 38 = .ok (.iinc 5 1, 3) := by decide +kernel
theorem dX6_fill_41 : decode cX6_fill 41 = .ok (.goto (-26), 3) := by decide +kernel
theorem dX6_fill_44 : decode cX6_fill 44 = .ok (.iinc 4 1, 3) := by decide +kernel
theorem dX6_fill_47 : decode cX6_fill 47 = .ok (.goto (-44), 3) := by decide +kernel
theorem dX6_fill_50 : decode cX6_fill 50 = .ok (.return_, 1) := by decide +kernel
theorem dX6_fillDegree_0 : decode cX6_fillDegree 0 = .ok (.iload_n 2, 1) := by decide +kernel
theorem dX6_fillDegree_1 : decode cX6_fillDegree 1 = .ok (.bipush 70, 2) := by decide +kernel
theorem dX6_fillDegree_3 : decode cX6_fillDegree 3 = .ok (.imul, 1) := by decide +kernel
theorem dX6_fillDegree_4 : decode cX6_fillDegree 4 = .ok (.iload_n 3, 1) := by decide +kernel
theorem dX6_fillDegree_5 : decode cX6_fillDegree 5 = .ok (.bipush 10, 2) := by decide +kernel
theorem dX6_fillDegree_7 : decode cX6_fillDegree 7 = .ok (.imul, 1) := by decide +kernel
theorem dX6_fillDegree_8 : decode cX6_fillDegree 8 = .ok (.iadd, 1) := by decide +kernel
theorem dX6_fillDegree_9 : decode cX6_fillDegree 9 = .ok (.istore 6, 2) := by decide +kernel
theorem dX6_fillDegree_11 : decode cX6_fillDegree 11 = .ok (.iload 6, 2) := by decide +kernel
theorem dX6_fillDegree_13 : decode cX6_fillDegree 13 = .ok (.bipush 9, 2) := by decide +kernel
theorem dX6_fillDegree_15 : decode cX6_fillDegree 15 = .ok (.iadd, 1) := by decide +kernel
theorem dX6_fillDegree_16 : decode cX6_fillDegree 16 = .ok (.istore 7, 2) := by decide +kernel
theorem dX6_fillDegree_18 : decode cX6_fillDegree 18 = .ok (.aload_n 0, 1) := by decide +kernel
theorem dX6_fillDegree_19 : decode cX6_fillDegree 19 = .ok (.getfield 9, 3) := by decide +kernel
theorem dX6_fillDegree_22 : decode cX6_fillDegree 22 = .ok (.iload 7, 2) := by decide +kernel
theorem dX6_fillDegree_24 : decode cX6_fillDegree 24 = .ok (.iconst (-1), 1) := by decide +kernel
theorem dX6_fillDegree_25 : decode cX6_fillDegree 25 = .ok (.iastore, 1) := by decide +kernel
theorem dX6_fillDegree_26 : decode cX6_fillDegree 26 = .ok (.aload_n 0, 1) := by decide +kernel
theorem dX6_fillDegree_27 : decode cX6_fillDegree 27 = .ok (.getfield 15, 3) := by decide +kernel
theorem dX6_fillDegree_30 : decode cX6_fillDegree 30 = .ok (.iload 7, 2) := by decide +kernel
theorem dX6_fillDegree_32 : decode cX6_fillDegree 32 = .ok (.iconst (-1), 1) := by decide +kernel
theorem dX6_fillDegree_33 : decode cX6_fillDegree 33 = .ok (.iastore, 1) := by decide +kernel
theorem dX6_fillDegree_34 : decode cX6_fillDegree 34 = .ok (.iconst 0, 1) := by decide +kernel
theorem dX6_fillDegree_35 : decode cX6_fillDegree 35 = .ok (.istore 8, 2) := by decide +kernel
theorem dX6_fillDegree_37 : decode cX6_fillDegree 37 = .ok (.iload 8, 2) := by decide +kernel
theorem dX6_fillDegree_39 : decode cX6_fillDegree 39 = .ok (.bipush 9, 2) := by decide +kernel
theorem dX6_fillDegree_41 : decode cX6_fillDegree 41 = .ok (.if_icmp .ge 123, 3) := by decide +kernel
theorem dX6_fillDegree_44 : decode cX6_fillDegree 44 = .ok (.aload 5, 2) := by decide +kernel
theorem dX6_fillDegree_46 : decode cX6_fillDegree 46 = .ok (.aload_n 1, 1) := by decide +kernel
theorem dX6_fillDegree_47 : decode cX6_fillDegree 47 = .ok (.getfield 34, 3) := by decide +kernel
theorem dX6_fillDegree_50 : decode cX6_fillDegree 50 = .ok (.iload_n 2, 1) := by decide +kernel
theorem dX6_fillDegree_51 : decode cX6_fillDegree 51 = .ok (.iaload, 1) := by decide +kernel
theorem dX6_fillDegree_52 : decode cX6_fillDegree 52 = .ok (.aload_n 1, 1) := by decide +kernel
theorem dX6_fillDegree_53 : decode cX6_fillDegree 53 = .ok (.getfield 37, 3) := by decide +kernel
end
section
theorem dX6_fillDegree_56 : decode cX6_fillDegree 56 = .ok (.iload_n 2, 1) := by decide +kernel
theorem dX6_fillDegree_57 : decode cX6_fillDegree 57 = .ok (.iaload, 1) := by decide +kernel
theorem dX6_fillDegree_58 : decode cX6_fillDegree 58 = .ok (.iload 4, 2) := by decide +kernel
theorem dX6_fillDegree_60 : decode cX6_fillDegree 60 = .ok (.iload 8, 2) := by decide +kernel
theorem dX6_fillDegree_62 : decode cX6_fillDegree 62 = .ok (.invokevirtual 40, 3) := by decide +kernel
theorem dX6_fillDegree_65 : decode cX6_fillDegree 65 = .ok (.istore 9, 2) := by decide +kernel
theorem dX6_fillDegree_67 : decode cX6_fillDegree 67 = .ok (.iload 9, 2) := by decide +kernel
theorem dX6_fillDegree_69 : decode cX6_fillDegree 69 = .ok (.iconst (-1), 1) := by decide +kernel
theorem dX6_fillDegree_70 : decode cX6_fillDegree 70 = .ok (.if_icmp .ne 7, 3) := by decide +kernel
theorem dX6_fillDegree_73 : decode cX6_fillDegree 73 = .ok (.iconst (-1), 1) := by decide +kernel
theorem dX6_fillDegree_74 : decode cX6_fillDegree 74 = .ok (.goto 11, 3) := by decide +kernel
theorem dX6_fillDegree_77 : decode cX6_fillDegree 77 = .ok (.bipush 12, 2) := by decide +kernel
theorem dX6_fillDegree_79 : decode cX6_fillDegree 79 = .ok (.iload 8, 2) := by decide +kernel
theorem dX6_fillDegree_81 : decode cX6_fillDegree 81 = .ok (.imul, 1) := by decide +kernel
theorem dX6_fillDegree_82 : decode cX6_fillDegree 82 = .ok (.iload 4, 2) := by decide +kernel
theorem dX6_fillDegree_84 : decode cX6_fillDegree 84 = .ok (.iadd, 1) := by decide +kernel
theorem dX6_fillDegree_85 : decode cX6_fillDegree 85 = .ok (.istore 10, 2) := by decide +kernel
theorem dX6_fillDegree_87 : decode cX6_fillDegree 87 = .ok (.aload_n 0, 1) := by decide +kernel
theorem dX6_fillDegree_88 : decode cX6_fillDegree 88 = .ok (.getfield 9, 3) := by decide +kernel
theorem dX6_fillDegree_91 : decode cX6_fillDegree 91 = .ok (.iload 6, 2) := by decide +kernel
theorem dX6_fillDegree_93 : decode cX6_fillDegree 93 = .ok (.iload 8, 2) := by decide +kernel
theorem dX6_fillDegree_95 : decode cX6_fillDegree 95 = .ok (.iadd, 1) := by decide +kernel
theorem dX6_fillDegree_96 : decode cX6_fillDegree 96 = .ok (.iload 10, 2) := by decide +kernel
theorem dX6_fillDegree_98 : decode cX6_fillDegree 98 = .ok (.iastore, 1) := by decide +kernel
theorem dX6_fillDegree_99 : decode cX6_fillDegree 99 = .ok (.aload_n 0, 1) := by decide +kernel
theorem dX6_fillDegree_100 : decode cX6_fillDegree 100 = .ok (.getfield 15, 3) := by decide +kernel
theorem dX6_fillDegree_103 : decode cX6_fillDegree 103 = .ok (.iload 6, 2) := by decide +kernel
theorem dX6_fillDegree_105 : decode cX6_fillDegree 105 = .ok (.iload 8, 2) := by decide +kernel
theorem dX6_fillDegree_107 : decode cX6_fillDegree 107 = .ok (.iadd, 1) := by decide +kernel
theorem dX6_fillDegree_108 : decode cX6_fillDegree 108 = .ok (.iload 9, 2) := by decide +kernel
theorem dX6_fillDegree_110 : decode cX6_fillDegree 110 = .ok (.iastore, 1) := by decide +kernel
theorem dX6_fillDegree_111 : decode cX6_fillDegree 111 = .ok (.iload 10, 2) := by decide +kernel
theorem dX6_fillDegree_113 : decode cX6_fillDegree 113 = .ok (.iconst (-1), 1) := by decide +kernel
theorem dX6_fillDegree_114 : decode cX6_fillDegree 114 = .ok (.if_icmp .eq 44, 3) := by decide +kernel
theorem dX6_fillDegree_117 : decode cX6_fillDegree 117 = .ok (.aload_n 0, 1) := by decide +kernel
theorem dX6_fillDegree_118 : decode cX6_fillDegree 118 = .ok (.getfield 9, 3) := by decide +kernel
theorem dX6_fillDegree_121 : decode cX6_fillDegree 121 = .ok (.iload 7, 2) := by decide +kernel
theorem dX6_fillDegree_123 : decode cX6_fillDegree 123 = .ok (.iaload, 1) := by decide +kernel
theorem dX6_fillDegree_124 : decode cX6_fillDegree 124 = .ok (.iconst (-1), 1) := by decide +kernel
theorem dX6_fillDegree_125 : decode cX6_fillDegree 125 = .ok (.if_icmp .eq 15, 3) := by decide +kernel
theorem dX6_fillDegree_128 : decode cX6_fillDegree 128 = .ok (.iload 9, 2) := by decide +kernel
theorem dX6_fillDegree_130 : decode cX6_fillDegree 130 = .ok (.aload_n 0, 1) := by decide +kernel
theorem dX6_fillDegree_131 : decode cX6_fillDegree 131 = .ok (.getfield 15, 3) := by decide +kernel
theorem dX6_fillDegree_134 : decode cX6_fillDegree 134 = .ok (.iload 7, 2) := by decide +kernel
theorem dX6_fillDegree_136 : decode cX6_fillDegree 136 = .ok (.iaload, 1) := by decide +kernel
theorem dX6_fillDegree_137 : decode cX6_fillDegree 137 = .ok (.if_icmp .ge 21, 3) := by decide +kernel
theorem dX6_fillDegree_140 : decode cX6_fillDegree 140 = .ok (.aload_n 0, 1) := by decide +kernel
theorem dX6_fillDegree_141 : decode cX6_fillDegree 141 = .ok (.getfield 9, 3) := by decide +kernel
theorem dX6_fillDegree_144 : decode cX6_fillDegree 144 = .ok (.iload 7, 2) := by decide +kernel
theorem dX6_fillDegree_146 : decode cX6_fillDegree 146 = .ok (.iload 10, 2) := by decide +kernel
theorem dX6_fillDegree_148 : decode cX6_fillDegree 148 = .ok (.iastore, 1) := by decide +kernel
theorem dX6_fillDegree_149 : decode cX6_fillDegree 149 = .ok (.aload_n 0, 1) := by decide +kernel
theorem dX6_fillDegree_150 : decode cX6_fillDegree 150 = .ok (.getfield 15, 3) := by decide +kernel
theorem dX6_fillDegree_153 : decode cX6_fillDegree 153 = .ok (.iload 7, 2) := by decide +kernel
theorem dX6_fillDegree_155 : decode cX6_fillDegree 155 = .ok (.iload 9, 2) := by decide +kernel
theorem dX6_fillDegree_157 : decode cX6_fillDegree 157 = .ok (.iastore, 1) := by decide +kernel
theorem dX6_fillDegree_158 : decode cX6_fillDegree 158 = .ok (.iinc 8 1, 3) := by decide +kernel
theorem dX6_fillDegree_161 : decode cX6_fillDegree 161 = .ok (.goto (-124), 3) := by decide +kernel
theorem dX6_fillDegree_164 : decode cX6_fillDegree 164 = .ok (.return_, 1) := by decide +kernel
theorem dX7_init_0 : decode cX7_init 0 = .ok (.aload_n 0, 1) := by decide +kernel
theorem dX7_init_1 : decode cX7_init 1 = .ok (.invokespecial 3, 3) := by decide +kernel
theorem dX7_init_4 : decode cX7_init 4 = .ok (.aload_n 0, 1) := by decide +kernel
theorem dX7_init_5 : decode cX7_init 5 = .ok (.iconst 4, 1) := by decide +kernel
theorem dX7_init_6 : decode cX7_init 6 = .ok (.newarray .int, 2) := by decide +kernel
theorem dX7_init_8 : decode cX7_init 8 = .ok (.dup, 1) := by decide +kernel
theorem dX7_init_9 : decode cX7_init 9 = .ok (.iconst 0, 1) := by decide +kernel
theorem dX7_init_10 : decode cX7_init 10 = .ok (.iconst 4, 1) := by decide +kernel
theorem dX7_init_11 : decode cX7_init 11 = .ok (.iastore, 1) := by decide +kernel
theorem dX7_init_12 : decode cX7_init 12 = .ok (.dup, 1) := by decide +kernel
theorem dX7_init_13 : decode cX7_init 13 = .ok (.iconst 1, 1) := by decide +kernel
theorem dX7_init_14 : decode cX7_init 14 = .ok (.iconst 3, 1) := by decide +kernel
theorem dX7_init_15 : decode cX7_init 15 = .ok (.iastore, 1) := by decide +kernel
theorem dX7_init_16 : decode cX7_init 16 = .ok (.dup, 1) := by decide +kernel
theorem dX7_init_17 : decode cX7_init 17 = .ok (.iconst 2, 1) := by decide +kernel
theorem dX7_init_18 : decode cX7_init 18 = .ok (.iconst 1, 1) := by decide +kernel
theorem dX7_init_19 : decode cX7_init 19 = .ok (.iastore, 1) := by decide +kernel
theorem dX7_init_20 : decode cX7_init 20 = .ok (.dup, 1) := by decide +kernel
theorem dX7_init_21 : decode cX7_init 21 = .ok (.iconst 3, 1) := by decide +kernel
theorem dX7_init_22 : decode cX7_init 22 = .ok (.iconst 5, 1) := by decide +kernel
theorem dX7_init_23 : decode cX7_init 23 = .ok (.iastore, 1) := by decide +kernel
theorem dX7_init_24 : decode cX7_init 24 = .ok (.putfield 9, 3) := by decide +kernel
theorem dX7_init_27 : decode cX7_init 27 = .ok (.return_, 1) := by decide +kernel
theorem dX7_change_0 : decode cX7_change 0 = .ok (.iload_n 1, 1) := by decide +kernel
theorem dX7_change_1 : decode cX7_change 1 = .ok (.ifCond .lt 19, 3) := by decide +kernel
theorem dX7_change_4 : decode cX7_change 4 = .ok (.iload_n 1, 1) := by decide +kernel
theorem dX7_change_5 : decode cX7_change 5 = .ok (.iconst 4, 1) := by decide +kernel
theorem dX7_change_6 : decode cX7_change 6 = .ok (.if_icmp .ge 14, 3) := by decide +kernel
theorem dX7_change_9 : decode cX7_change 9 = .ok (.iload_n 2, 1) := by decide +kernel
theorem dX7_change_10 : decode cX7_change 10 = .ok (.ifCond .lt 10, 3) := by decide +kernel
theorem dX7_change_13 : decode cX7_change 13 = .ok (.iload_n 2, 1) := by decide +kernel
theorem dX7_change_14 : decode cX7_change 14 = .ok (.sipush 1000, 3) := by decide +kernel
theorem dX7_change_17 : decode cX7_change 17 = .ok (.if_icmp .le 5, 3) := by decide +kernel
theorem dX7_change_20 : decode cX7_change 20 = .ok (.iconst 0, 1) := by decide +kernel
theorem dX7_change_21 : decode cX7_change 21 = .ok (.ireturn, 1) := by decide +kernel
theorem dX7_change_22 : decode cX7_change 22 = .ok (.aload_n 0, 1) := by decide +kernel
theorem dX7_change_23 : decode cX7_change 23 = .ok (.getfield 9, 3) := by decide +kernel
theorem dX7_change_26 : decode cX7_change 26 = .ok (.iload_n 1, 1) := by decide +kernel
theorem dX7_change_27 : decode cX7_change 27 = .ok (.iload_n 2, 1) := by decide +kernel
theorem dX7_change_28 : decode cX7_change 28 = .ok (.iastore, 1) := by decide +kernel
theorem dX7_change_29 : decode cX7_change 29 = .ok (.iconst 1, 1) := by decide +kernel
theorem dX7_change_30 : decode cX7_change 30 = .ok (.ireturn, 1) := by decide +kernel
theorem dX7_ofFit_0 : decode cX7_ofFit 0 = .ok (.iload_n 3, 1) := by decide +kernel
theorem dX7_ofFit_1 : decode cX7_ofFit 1 = .ok (.iload 4, 2) := by decide +kernel
theorem dX7_ofFit_3 : decode cX7_ofFit 3 = .ok (.invokestatic 15, 3) := by decide +kernel
theorem dX7_ofFit_6 : decode cX7_ofFit 6 = .ok (.istore 5, 2) := by decide +kernel
theorem dX7_ofFit_8 : decode cX7_ofFit 8 = .ok (.iload 5, 2) := by decide +kernel
theorem dX7_ofFit_10 : decode cX7_ofFit 10 = .ok (.iload_n 1, 1) := by decide +kernel
theorem dX7_ofFit_11 : decode cX7_ofFit 11 = .ok (.iand, 1) := by decide +kernel
theorem dX7_ofFit_12 : decode cX7_ofFit 12 = .ok (.invokestatic 19, 3) := by decide +kernel
theorem dX7_ofFit_15 : decode cX7_ofFit 15 = .ok (.istore 6, 2) := by decide +kernel
theorem dX7_ofFit_17 : decode cX7_ofFit 17 = .ok (.iload 6, 2) := by decide +kernel
theorem dX7_ofFit_19 : decode cX7_ofFit 19 = .ok (.iconst 2, 1) := by decide +kernel
theorem dX7_ofFit_20 : decode cX7_ofFit 20 = .ok (.if_icmp .ge 5, 3) := by decide +kernel
theorem dX7_ofFit_23 : decode cX7_ofFit 23 = .ok (.iconst (-1), 1) := by decide +kernel
theorem dX7_ofFit_24 : decode cX7_ofFit 24 = .ok (.ireturn, 1) := by decide +kernel
theorem dX7_ofFit_25 : decode cX7_ofFit 25 = .ok (.iload_n 1, 1) := by decide +kernel
theorem dX7_ofFit_26 : decode cX7_ofFit 26 = .ok (.invokestatic 19, 3) := by decide +kernel
theorem dX7_ofFit_29 : decode cX7_ofFit 29 = .ok (.iload 6, 2) := by decide +kernel
theorem dX7_ofFit_31 : decode cX7_ofFit 31 = .ok (.isub, 1) := by decide +kernel
theorem dX7_ofFit_32 : decode cX7_ofFit 32 = .ok (.istore 7, 2) := by decide +kernel
theorem dX7_ofFit_34 : decode cX7_ofFit 34 = .ok (.iload 5, 2) := by decide +kernel
theorem dX7_ofFit_36 : decode cX7_ofFit 36 = .ok (.invokestatic 19, 3) := by decide +kernel
theorem dX7_ofFit_39 : decode cX7_ofFit 39 = .ok (.iload 6, 2) := by decide +kernel
theorem dX7_ofFit_41 : decode cX7_ofFit 41 = .ok (.isub, 1) := by decide +kernel
theorem dX7_ofFit_42 : decode cX7_ofFit 42 = .ok (.istore 8, 2) := by decide +kernel
theorem dX7_ofFit_44 : decode cX7_ofFit 44 = .ok (.iload 7, 2) := by decide +kernel
theorem dX7_ofFit_46 : decode cX7_ofFit 46 = .ok (.aload_n 0, 1) := by decide +kernel
theorem dX7_ofFit_47 : decode cX7_ofFit 47 = .ok (.getfield 9, 3) := by decide +kernel
theorem dX7_ofFit_50 : decode cX7_ofFit 50 = .ok (.iconst 0, 1) := by decide +kernel
theorem dX7_ofFit_51 : decode cX7_ofFit 51 = .ok (.iaload, 1) := by decide +kernel
theorem dX7_ofFit_52 : decode cX7_ofFit 52 = .ok (.imul, 1) := by decide +kernel
theorem dX7_ofFit_53 : decode cX7_ofFit 53 = .ok (.iload 8, 2) := by decide +kernel
theorem dX7_ofFit_55 : decode cX7_ofFit 55 = .ok (.aload_n 0, 1) := by decide +kernel
theorem dX7_ofFit_56 : decode cX7_ofFit 56 = .ok (.getfield 9, 3) := by decide +kernel
theorem dX7_ofFit_59 : decode cX7_ofFit 59 = .ok (.iconst 1, 1) := by decide +kernel
theorem dX7_ofFit_60 : decode cX7_ofFit 60 = .ok (.iaload, 1) := by decide +kernel
theorem dX7_ofFit_61 : decode cX7_ofFit 61 = .ok (.imul, 1) := by decide +kernel
theorem dX7_ofFit_62 : decode cX7_ofFit 62 = .ok (.iadd, 1) := by decide +kernel
theorem dX7_ofFit_63 : decode cX7_ofFit 63 = .ok (.aload_n 0, 1) := by decide +kernel
theorem dX7_ofFit_64 : decode cX7_ofFit 64 = .ok (.iload_n 2, 1) := by decide +kernel
theorem dX7_ofFit_65 : decode cX7_ofFit 65 = .ok (.iload_n 3, 1) := by decide +kernel
theorem dX7_ofFit_66 : decode cX7_ofFit 66 = .ok (.iload 5, 2) := by decide +kernel
theorem dX7_ofFit_68 : decode cX7_ofFit 68 = .ok (.invokevirtual 25, 3) := by decide +kernel
theorem dX7_ofFit_71 : decode cX7_ofFit 71 = .ok (.iadd, 1) := by decide +kernel
theorem dX7_ofFit_72 : decode cX7_ofFit 72 = .ok (.ireturn, 1) := by decide +kernel
theorem dX7_ofBass_0 : decode cX7_ofBass 0 = .ok (.iload_n 1, 1) := by decide +kernel
theorem dX7_ofBass_1 : decode cX7_ofBass 1 = .ok (.iconst (-1), 1) := by decide +kernel
theorem dX7_ofBass_2 : decode cX7_ofBass 2 = .ok (.if_icmp .eq 8, 3) := by decide +kernel
theorem dX7_ofBass_5 : decode cX7_ofBass 5 = .ok (.iload_n 1, 1) := by decide +kernel
theorem dX7_ofBass_6 : decode cX7_ofBass 6 = .ok (.iload_n 2, 1) := by decide +kernel
theorem dX7_ofBass_7 : decode cX7_ofBass 7 = .ok (.if_icmp .ne 5, 3) := by decide +kernel
theorem dX7_ofBass_10 : decode cX7_ofBass 10 = .ok (.iconst 0, 1) := by decide +kernel
theorem dX7_ofBass_11 : decode cX7_ofBass 11 = .ok (.ireturn, 1) := by decide +kernel
theorem dX7_ofBass_12 : decode cX7_ofBass 12 = .ok (.iload_n 3, 1) := by decide +kernel
theorem dX7_ofBass_13 : decode cX7_ofBass 13 = .ok (.iload_n 1, 1) := by decide +kernel
theorem dX7_ofBass_14 : decode cX7_ofBass 14 = .ok (.iushr, 1) := by decide +kernel
theorem dX7_ofBass_15 : decode cX7_ofBass 15 = .ok (.iconst 1, 1) := by decide +kernel
theorem dX7_ofBass_16 : decode cX7_ofBass 16 = .ok (.iand, 1) := by decide +kernel
theorem dX7_ofBass_17 : decode cX7_ofBass 17 = .ok (.ifCond .eq 12, 3) := by decide +kernel
theorem dX7_ofBass_20 : decode cX7_ofBass 20 = .ok (.aload_n 0, 1) := by decide +kernel
theorem dX7_ofBass_21 : decode cX7_ofBass 21 = .ok (.getfield 9, 3) := by decide +kernel
theorem dX7_ofBass_24 : decode cX7_ofBass 24 = .ok (.iconst 2, 1) := by decide +kernel
theorem dX7_ofBass_25 : decode cX7_ofBass 25 = .ok (.iaload, 1) := by decide +kernel
theorem dX7_ofBass_26 : decode cX7_ofBass 26 = .ok (.goto 9, 3) := by decide +kernel
theorem dX7_ofBass_29 : decode cX7_ofBass 29 = .ok (.aload_n 0, 1) := by decide +kernel
theorem dX7_ofBass_30 : decode cX7_ofBass 30 = .ok (.getfield 9, 3) := by decide +kernel
theorem dX7_ofBass_33 : decode cX7_ofBass 33 = .ok (.iconst 3, 1) := by decide +kernel
theorem dX7_ofBass_34 : decode cX7_ofBass 34 = .ok (.iaload, 1) := by decide +kernel
theorem dX7_ofBass_35 : decode cX7_ofBass 35 = .ok (.ireturn, 1) := by decide +kernel
theorem dX7_cheapest_0 : decode cX7_cheapest 0 = .ok (.iconst (-1), 1) := by decide +kernel
theorem dX7_cheapest_1 : decode cX7_cheapest 1 = .ok (.istore_n 3, 1) := by decide +kernel
theorem dX7_cheapest_2 : decode cX7_cheapest 2 = .ok (.ldc 29, 2) := by decide +kernel
theorem dX7_cheapest_4 : decode cX7_cheapest 4 = .ok (.istore 4, 2) := by decide +kernel
theorem dX7_cheapest_6 : decode cX7_cheapest 6 = .ok (.iconst 0, 1) := by decide +kernel
theorem dX7_cheapest_7 : decode cX7_cheapest 7 = .ok (.istore 5, 2) := by decide +kernel
theorem dX7_cheapest_9 : decode cX7_cheapest 9 = .ok (.iload 5, 2) := by decide +kernel
theorem dX7_cheapest_11 : decode cX7_cheapest 11 = .ok (.bipush 9, 2) := by decide +kernel
theorem dX7_cheapest_13 : decode cX7_cheapest 13 = .ok (.if_icmp .ge 63, 3) := by decide +kernel
theorem dX7_cheapest_16 : decode cX7_cheapest 16 = .ok (.iconst 0, 1) := by decide +kernel
theorem dX7_cheapest_17 : decode cX7_cheapest 17 = .ok (.istore 6, 2) := by decide +kernel
theorem dX7_cheapest_19 : decode cX7_cheapest 19 = .ok (.iload 6, 2) := by decide +kernel
theorem dX7_cheapest_21 : decode cX7_cheapest 21 = .ok (.bipush 12, 2) := by decide +kernel
theorem dX7_cheapest_23 : decode cX7_cheapest 23 = .ok (.if_icmp .ge 47, 3) := by decide +kernel
theorem dX7_cheapest_26 : decode cX7_cheapest 26 = .ok (.aload_n 0, 1) := by decide +kernel
theorem dX7_cheapest_27 : decode cX7_cheapest 27 = .ok (.iload_n 1, 1) := by decide +kernel
theorem dX7_cheapest_28 : decode cX7_cheapest 28 = .ok (.iload_n 2, 1) := by decide +kernel
theorem dX7_cheapest_29 : decode cX7_cheapest 29 = .ok (.iload 6, 2) := by decide +kernel
theorem dX7_cheapest_31 : decode cX7_cheapest 31 = .ok (.iload 5, 2) := by decide +kernel
theorem dX7_cheapest_33 : decode cX7_cheapest 33 = .ok (.invokevirtual 30, 3) := by decide +kernel
theorem dX7_cheapest_36 : decode cX7_cheapest 36 = .ok (.istore 7, 2) := by decide +kernel
theorem dX7_cheapest_38 : decode cX7_cheapest 38 = .ok (.iload 7, 2) := by decide +kernel
theorem dX7_cheapest_40 : decode cX7_cheapest 40 = .ok (.iconst (-1), 1) := by decide +kernel
theorem dX7_cheapest_41 : decode cX7_cheapest 41 = .ok (.if_icmp .eq 23, 3) := by decide +kernel
theorem dX7_cheapest_44 : decode cX7_cheapest 44 = .ok (.iload 7, 2) := by decide +kernel
theorem dX7_cheapest_46 : decode cX7_cheapest 46 = .ok (.iload 4, 2) := by decide +kernel
theorem dX7_cheapest_48 : decode cX7_cheapest 48 = .ok (.if_icmp .ge 16, 3) := by decide +kernel
theorem dX7_cheapest_51 : decode cX7_cheapest 51 = .ok (.iload 7, 2) := by decide +kernel
theorem dX7_cheapest_53 : decode cX7_cheapest 53 = .ok (.istore 4, 2) := by decide +kernel
theorem dX7_cheapest_55 : decode cX7_cheapest 55 = .ok (.bipush 12, 2) := by decide +kernel
theorem dX7_cheapest_57 : decode cX7_cheapest 57 = .ok (.iload 5, 2) := by decide +kernel
theorem dX7_cheapest_59 : decode cX7_cheapest 59 = .ok (.imul, 1) := by decide +kernel
theorem dX7_cheapest_60 : decode cX7_cheapest 60 = .ok (.iload 6, 2) := by decide +kernel
theorem dX7_cheapest_62 : decode cX7_cheapest 62 = .ok (.iadd, 1) := by decide +kernel
theorem dX7_cheapest_63 : decode cX7_cheapest 63 = .ok (.istore_n 3, 1) := by decide +kernel
theorem dX7_cheapest_64 : decode cX7_cheapest 64 = .ok (.iinc 6 1, 3) := by decide +kernel
theorem dX7_cheapest_67 : decode cX7_cheapest 67 = .ok (.goto (-48), 3) := by decide +kernel
theorem dX7_cheapest_70 : decode cX7_cheapest 70 = .ok (.iinc 5 1, 3) := by decide +kernel
theorem dX7_cheapest_73 : decode cX7_cheapest 73 = .ok (.goto (-64), 3) := by decide +kernel
theorem dX7_cheapest_76 : decode cX7_cheapest 76 = .ok (.iload_n 3, 1) := by decide +kernel
theorem dX7_cheapest_77 : decode cX7_cheapest 77 = .ok (.ireturn, 1) := by decide +kernel
theorem dX8_init_0 : decode cX8_init 0 = .ok (.aload_n 0, 1) := by decide +kernel
theorem dX8_init_1 : decode cX8_init 1 = .ok (.invokespecial 3, 3) := by decide +kernel
theorem dX8_init_4 : decode cX8_init 4 = .ok (.aload_n 0, 1) := by decide +kernel
theorem dX8_init_5 : decode cX8_init 5 = .ok (.iconst (-1), 1) := by decide +kernel
theorem dX8_init_6 : decode cX8_init 6 = .ok (.putfield 9, 3) := by decide +kernel
theorem dX8_init_9 : decode cX8_init 9 = .ok (.aload_n 0, 1) := by decide +kernel
theorem dX8_init_10 : decode cX8_init 10 = .ok (.iconst 0, 1) := by decide +kernel
theorem dX8_init_11 : decode cX8_init 11 = .ok (.putfield 15, 3) := by decide +kernel
theorem dX8_init_14 : decode cX8_init 14 = .ok (.aload_n 0, 1) := by decide +kernel
theorem dX8_init_15 : decode cX8_init 15 = .ok (.sipush 1246, 3) := by decide +kernel
theorem dX8_init_18 : decode cX8_init 18 = .ok (.newarray .int, 2) := by decide +kernel
theorem dX8_init_20 : decode cX8_init 20 = .ok (.putfield 18, 3) := by decide +kernel
theorem dX8_init_23 : decode cX8_init 23 = .ok (.aload_n 0, 1) := by decide +kernel
theorem dX8_init_24 : decode cX8_init 24 = .ok (.sipush 1246, 3) := by decide +kernel
theorem dX8_init_27 : decode cX8_init 27 = .ok (.newarray .int, 2) := by decide +kernel
theorem dX8_init_29 : decode cX8_init 29 = .ok (.putfield 22, 3) := by decide +kernel
theorem dX8_init_32 : decode cX8_init 32 = .ok (.aload_n 0, 1) := by decide +kernel
theorem dX8_init_33 : decode cX8_init 33 = .ok (.sipush 1246, 3) := by decide +kernel
theorem dX8_init_36 : decode cX8_init 36 = .ok (.newarray .int, 2) := by decide +kernel
theorem dX8_init_38 : decode cX8_init 38 = .ok (.putfield 25, 3) := by decide +kernel
theorem dX8_init_41 : decode cX8_init 41 = .ok (.aload_n 0, 1) := by decide +kernel
theorem dX8_init_42 : decode cX8_init 42 = .ok (.sipush 1246, 3) := by decide +kernel
theorem dX8_init_45 : decode cX8_init 45 = .ok (.newarray .int, 2) := by decide +kernel
theorem dX8_init_47 : decode cX8_init 47 = .ok (.putfield 28, 3) := by decide +kernel
theorem dX8_init_50 : decode cX8_init 50 = .ok (.aload_n 0, 1) := by decide +kernel
theorem dX8_init_51 : decode cX8_init 51 = .ok (.bipush 24, 2) := by decide +kernel
theorem dX8_init_53 : decode cX8_init 53 = .ok (.newarray .int, 2) := by decide +kernel
theorem dX8_init_55 : decode cX8_init 55 = .ok (.putfield 31, 3) := by decide +kernel
theorem dX8_init_58 : decode cX8_init 58 = .ok (.aload_n 0, 1) := by decide +kernel
theorem dX8_init_59 : decode cX8_init 59 = .ok (.bipush 24, 2) := by decide +kernel
theorem dX8_init_61 : decode cX8_init 61 = .ok (.newarray .int, 2) := by decide +kernel
theorem dX8_init_63 : decode cX8_init 63 = .ok (.putfield 34, 3) := by decide +kernel
theorem dX8_init_66 : decode cX8_init 66 = .ok (.aload_n 0, 1) := by decide +kernel
theorem dX8_init_67 : decode cX8_init 67 = .ok (.bipush 24, 2) := by decide +kernel
theorem dX8_init_69 : decode cX8_init 69 = .ok (.newarray .int, 2) := by decide +kernel
theorem dX8_init_71 : decode cX8_init 71 = .ok (.putfield 37, 3) := by decide +kernel
theorem dX8_init_74 : decode cX8_init 74 = .ok (.aload_n 0, 1) := by decide +kernel
theorem dX8_init_75 : decode cX8_init 75 = .ok (.bipush 24, 2) := by decide +kernel
theorem dX8_init_77 : decode cX8_init 77 = .ok (.newarray .int, 2) := by decide +kernel
theorem dX8_init_79 : decode cX8_init 79 = .ok (.putfield 40, 3) := by decide +kernel
theorem dX8_init_82 : decode cX8_init 82 = .ok (.aload_n 0, 1) := by decide +kernel
theorem dX8_init_83 : decode cX8_init 83 = .ok (.bipush 24, 2) := by decide +kernel
theorem dX8_init_85 : decode cX8_init 85 = .ok (.newarray .int, 2) := by decide +kernel
theorem dX8_init_87 : decode cX8_init 87 = .ok (.putfield 43, 3) := by decide +kernel
theorem dX8_init_90 : decode cX8_init 90 = .ok (.aload_n 0, 1) := by decide +kernel
theorem dX8_init_91 : decode cX8_init 91 = .ok (.bipush 24, 2) := by decide +kernel
theorem dX8_init_93 : decode cX8_init 93 = .ok (.newarray .int, 2) := by decide +kernel
theorem dX8_init_95 : decode cX8_init 95 = .ok (.putfield 46, 3) := by decide +kernel
theorem dX8_init_98 : decode cX8_init 98 = .ok (.aload_n 0, 1) := by decide +kernel
theorem dX8_init_99 : decode cX8_init 99 = .ok (.iconst 0, 1) := by decide +kernel
theorem dX8_init_100 : decode cX8_init 100 = .ok (.putfield 49, 3) := by decide +kernel
theorem dX8_init_103 : decode cX8_init 103 = .ok (.return_, 1) := by decide +kernel
theorem dX8_walk_0 : decode cX8_walk 0 = .ok (.aload_n 0, 1) := by decide +kernel
theorem dX8_walk_1 : decode cX8_walk 1 = .ok (.iload_n 2, 1) := by decide +kernel
theorem dX8_walk_2 : decode cX8_walk 2 = .ok (.putfield 9, 3) := by decide +kernel
theorem dX8_walk_5 : decode cX8_walk 5 = .ok (.aload_n 0, 1) := by decide +kernel
theorem dX8_walk_6 : decode cX8_walk 6 = .ok (.iconst 0, 1) := by decide +kernel
theorem dX8_walk_7 : decode cX8_walk 7 = .ok (.putfield 15, 3) := by decide +kernel
theorem dX8_walk_10 : decode cX8_walk 10 = .ok (.aload_n 0, 1) := by decide +kernel
theorem dX8_walk_11 : decode cX8_walk 11 = .ok (.iconst 0, 1) := by decide +kernel
theorem dX8_walk_12 : decode cX8_walk 12 = .ok (.putfield 49, 3) := by decide +kernel
theorem dX8_walk_15 : decode cX8_walk 15 = .ok (.aload_n 0, 1) := by decide +kernel
theorem dX8_walk_16 : decode cX8_walk 16 = .ok (.aload_n 1, 1) := by decide +kernel
theorem dX8_walk_17 : decode cX8_walk 17 = .ok (.getfield 52, 3) := by decide +kernel
theorem dX8_walk_20 : decode cX8_walk 20 = .ok (.getfield 58, 3) := by decide +kernel
theorem dX8_walk_23 : decode cX8_walk 23 = .ok (.iconst 0, 1) := by decide +kernel
theorem dX8_walk_24 : decode cX8_walk 24 = .ok (.iaload, 1) := by decide +kernel
theorem dX8_walk_25 : decode cX8_walk 25 = .ok (.iconst 0, 1) := by decide +kernel
theorem dX8_walk_26 : decode cX8_walk 26 = .ok (.aload_n 1, 1) := by decide +kernel
theorem dX8_walk_27 : decode cX8_walk 27 = .ok (.getfield 63, 3) := by decide +kernel
theorem dX8_walk_30 : decode cX8_walk 30 = .ok (.iconst 1, 1) := by decide +kernel
theorem dX8_walk_31 : decode cX8_walk 31 = .ok (.isub, 1) := by decide +kernel
theorem dX8_walk_32 : decode cX8_walk 32 = .ok (.iload_n 2, 1) := by decide +kernel
theorem dX8_walk_33 : decode cX8_walk 33 = .ok (.invokevirtual 66, 3) := by decide +kernel
theorem dX8_walk_36 : decode cX8_walk 36 = .ok (.iconst 0, 1) := by decide +kernel
theorem dX8_walk_37 : decode cX8_walk 37 = .ok (.istore_n 3, 1) := by decide +kernel
theorem dX8_walk_38 : decode cX8_walk 38 = .ok (.iload_n 3, 1) := by decide +kernel
theorem dX8_walk_39 : decode cX8_walk 39 = .ok (.sipush 1246, 3) := by decide +kernel
theorem dX8_walk_42 : decode cX8_walk 42 = .ok (.if_icmp .ge 43, 3) := by decide +kernel
theorem dX8_walk_45 : decode cX8_walk 45 = .ok (.aload_n 0, 1) := by decide +kernel
theorem dX8_walk_46 : decode cX8_walk 46 = .ok (.getfield 49, 3) := by decide +kernel
theorem dX8_walk_49 : decode cX8_walk 49 = .ok (.ifCond .le 36, 3) := by decide +kernel
theorem dX8_walk_52 : decode cX8_walk 52 = .ok (.aload_n 0, 1) := by decide +kernel
theorem dX8_walk_53 : decode cX8_walk 53 = .ok (.dup, 1) := by decide +kernel
theorem dX8_walk_54 : decode cX8_walk 54 = .ok (.getfield 49, 3) := by decide +kernel
theorem dX8_walk_57 : decode cX8_walk 57 = .ok (.iconst 1, 1) := by decide +kernel
theorem dX8_walk_58 : decode cX8_walk 58 = .ok (.isub, 1) := by decide +kernel
theorem dX8_walk_59 : decode cX8_walk 59 = .ok (.putfield 49, 3) := by decide +kernel
theorem dX8_walk_62 : decode cX8_walk 62 = .ok (.aload_n 0, 1) := by decide +kernel
theorem dX8_walk_63 : decode cX8_walk 63 = .ok (.iload_n 3, 1) := by decide +kernel
theorem dX8_walk_64 : decode cX8_walk 64 = .ok (.iconst 1, 1) := by decide +kernel
theorem dX8_walk_65 : decode cX8_walk 65 = .ok (.iadd, 1) := by decide +kernel
theorem dX8_walk_66 : decode cX8_walk 66 = .ok (.putfield 15, 3) := by decide +kernel
theorem dX8_walk_69 : decode cX8_walk 69 = .ok (.aload_n 0, 1) := by decide +kernel
theorem dX8_walk_70 : decode cX8_walk 70 = .ok (.aload_n 1, 1) := by decide +kernel
theorem dX8_walk_71 : decode cX8_walk 71 = .ok (.iload_n 3, 1) := by decide +kernel
theorem dX8_walk_72 : decode cX8_walk 72 = .ok (.aload_n 0, 1) := by decide +kernel
theorem dX8_walk_73 : decode cX8_walk 73 = .ok (.getfield 49, 3) := by decide +kernel
theorem dX8_walk_76 : decode cX8_walk 76 = .ok (.invokevirtual 70, 3) := by decide +kernel
theorem dX8_walk_79 : decode cX8_walk 79 = .ok (.iinc 3 1, 3) := by decide +kernel
theorem dX8_walk_82 : decode cX8_walk 82 = .ok (.goto (-44), 3) := by decide +kernel
theorem dX8_walk_85 : decode cX8_walk 85 = .ok (.return_, 1) := by decide +kernel
theorem dX8_visit_0 : decode cX8_visit 0 = .ok (.aload_n 0, 1) := by decide +kernel
theorem dX8_visit_1 : decode cX8_visit 1 = .ok (.getfield 37, 3) := by decide +kernel
theorem dX8_visit_4 : decode cX8_visit 4 = .ok (.iload_n 3, 1) := by decide +kernel
theorem dX8_visit_5 : decode cX8_visit 5 = .ok (.iaload, 1) := by decide +kernel
theorem dX8_visit_6 : decode cX8_visit 6 = .ok (.istore 4, 2) := by decide +kernel
theorem dX8_visit_8 : decode cX8_visit 8 = .ok (.aload_n 0, 1) := by decide +kernel
theorem dX8_visit_9 : decode cX8_visit 9 = .ok (.getfield 40, 3) := by decide +kernel
theorem dX8_visit_12 : decode cX8_visit 12 = .ok (.iload_n 3, 1) := by decide +kernel
theorem dX8_visit_13 : decode cX8_visit 13 = .ok (.iaload, 1) := by decide +kernel
theorem dX8_visit_14 : decode cX8_visit 14 = .ok (.istore 5, 2) := by decide +kernel
theorem dX8_visit_16 : decode cX8_visit 16 = .ok (.aload_n 0, 1) := by decide +kernel
theorem dX8_visit_17 : decode cX8_visit 17 = .ok (.getfield 43, 3) := by decide +kernel
theorem dX8_visit_20 : decode cX8_visit 20 = .ok (.iload_n 3, 1) := by decide +kernel
theorem dX8_visit_21 : decode cX8_visit 21 = .ok (.iaload, 1) := by decide +kernel
theorem dX8_visit_22 : decode cX8_visit 22 = .ok (.istore 6, 2) := by decide +kernel
theorem dX8_visit_24 : decode cX8_visit 24 = .ok (.aload_n 0, 1) := by decide +kernel
theorem dX8_visit_25 : decode cX8_visit 25 = .ok (.getfield 22, 3) := by decide +kernel
theorem dX8_visit_28 : decode cX8_visit 28 = .ok (.iload_n 2, 1) := by decide +kernel
theorem dX8_visit_29 : decode cX8_visit 29 = .ok (.iload 5, 2) := by decide +kernel
theorem dX8_visit_31 : decode cX8_visit 31 = .ok (.iastore, 1) := by decide +kernel
theorem dX8_visit_32 : decode cX8_visit 32 = .ok (.aload_n 0, 1) := by decide +kernel
theorem dX8_visit_33 : decode cX8_visit 33 = .ok (.getfield 25, 3) := by decide +kernel
theorem dX8_visit_36 : decode cX8_visit 36 = .ok (.iload_n 2, 1) := by decide +kernel
theorem dX8_visit_37 : decode cX8_visit 37 = .ok (.iload 6, 2) := by decide +kernel
theorem dX8_visit_39 : decode cX8_visit 39 = .ok (.iastore, 1) := by decide +kernel
theorem dX8_visit_40 : decode cX8_visit 40 = .ok (.aload_n 0, 1) := by decide +kernel
theorem dX8_visit_41 : decode cX8_visit 41 = .ok (.getfield 18, 3) := by decide +kernel
theorem dX8_visit_44 : decode cX8_visit 44 = .ok (.iload_n 2, 1) := by decide +kernel
theorem dX8_visit_45 : decode cX8_visit 45 = .ok (.iconst (-1), 1) := by decide +kernel
theorem dX8_visit_46 : decode cX8_visit 46 = .ok (.iastore, 1) := by decide +kernel
theorem dX8_visit_47 : decode cX8_visit 47 = .ok (.aload_n 0, 1) := by decide +kernel
theorem dX8_visit_48 : decode cX8_visit 48 = .ok (.getfield 28, 3) := by decide +kernel
theorem dX8_visit_51 : decode cX8_visit 51 = .ok (.iload_n 2, 1) := by decide +kernel
theorem dX8_visit_52 : decode cX8_visit 52 = .ok (.iconst (-1), 1) := by decide +kernel
theorem dX8_visit_53 : decode cX8_visit 53 = .ok (.iastore, 1) := by decide +kernel
theorem dX8_visit_54 : decode cX8_visit 54 = .ok (.iload 4, 2) := by decide +kernel
theorem dX8_visit_56 : decode cX8_visit 56 = .ok (.bipush 26, 2) := by decide +kernel
theorem dX8_visit_58 : decode cX8_visit 58 = .ok (.if_icmp .lt 50, 3) := by decide +kernel
theorem dX8_visit_61 : decode cX8_visit 61 = .ok (.aload_n 0, 1) := by decide +kernel
theorem dX8_visit_62 : decode cX8_visit 62 = .ok (.getfield 28, 3) := by decide +kernel
theorem dX8_visit_65 : decode cX8_visit 65 = .ok (.iload_n 2, 1) := by decide +kernel
theorem dX8_visit_66 : decode cX8_visit 66 = .ok (.aload_n 1, 1) := by decide +kernel
theorem dX8_visit_67 : decode cX8_visit 67 = .ok (.iload 4, 2) := by decide +kernel
theorem dX8_visit_69 : decode cX8_visit 69 = .ok (.iload 5, 2) := by decide +kernel
theorem dX8_visit_71 : decode cX8_visit 71 = .ok (.invokevirtual 74, 3) := by decide +kernel
theorem dX8_visit_74 : decode cX8_visit 74 = .ok (.iastore, 1) := by decide +kernel
theorem dX8_visit_75 : decode cX8_visit 75 = .ok (.aload_n 0, 1) := by decide +kernel
theorem dX8_visit_76 : decode cX8_visit 76 = .ok (.getfield 31, 3) := by decide +kernel
theorem dX8_visit_79 : decode cX8_visit 79 = .ok (.iload 5, 2) := by decide +kernel
theorem dX8_visit_81 : decode cX8_visit 81 = .ok (.aload_n 0, 1) := by decide +kernel
theorem dX8_visit_82 : decode cX8_visit 82 = .ok (.getfield 28, 3) := by decide +kernel
theorem dX8_visit_85 : decode cX8_visit 85 = .ok (.iload_n 2, 1) := by decide +kernel
theorem dX8_visit_86 : decode cX8_visit 86 = .ok (.iaload, 1) := by decide +kernel
theorem dX8_visit_87 : decode cX8_visit 87 = .ok (.iastore, 1) := by decide +kernel
theorem dX8_visit_88 : decode cX8_visit 88 = .ok (.aload_n 0, 1) := by decide +kernel
theorem dX8_visit_89 : decode cX8_visit 89 = .ok (.getfield 34, 3) := by decide +kernel
theorem dX8_visit_92 : decode cX8_visit 92 = .ok (.iload 5, 2) := by decide +kernel
theorem dX8_visit_94 : decode cX8_visit 94 = .ok (.iload 4, 2) := by decide +kernel
theorem dX8_visit_96 : decode cX8_visit 96 = .ok (.bipush 26, 2) := by decide +kernel
theorem dX8_visit_98 : decode cX8_visit 98 = .ok (.isub, 1) := by decide +kernel
theorem dX8_visit_99 : decode cX8_visit 99 = .ok (.bipush 10, 2) := by decide +kernel
theorem dX8_visit_101 : decode cX8_visit 101 = .ok (.idiv, 1) := by decide +kernel
theorem dX8_visit_102 : decode cX8_visit 102 = .ok (.iconst 1, 1) := by decide +kernel
theorem dX8_visit_103 : decode cX8_visit 103 = .ok (.iadd, 1) := by decide +kernel
theorem dX8_visit_104 : decode cX8_visit 104 = .ok (.iastore, 1) := by decide +kernel
theorem dX8_visit_105 : decode cX8_visit 105 = .ok (.goto 65, 3) := by decide +kernel
theorem dX8_visit_108 : decode cX8_visit 108 = .ok (.aload_n 0, 1) := by decide +kernel
theorem dX8_visit_109 : decode cX8_visit 109 = .ok (.getfield 46, 3) := by decide +kernel
theorem dX8_visit_112 : decode cX8_visit 112 = .ok (.iload_n 3, 1) := by decide +kernel
theorem dX8_visit_113 : decode cX8_visit 113 = .ok (.iaload, 1) := by decide +kernel
theorem dX8_visit_114 : decode cX8_visit 114 = .ok (.aload_n 1, 1) := by decide +kernel
theorem dX8_visit_115 : decode cX8_visit 115 = .ok (.iload 4, 2) := by decide +kernel
theorem dX8_visit_117 : decode cX8_visit 117 = .ok (.iload 5, 2) := by decide +kernel
theorem dX8_visit_119 : decode cX8_visit 119 = .ok (.iload 6, 2) := by decide +kernel
theorem dX8_visit_121 : decode cX8_visit 121 = .ok (.invokevirtual 78, 3) := by decide +kernel
theorem dX8_visit_124 : decode cX8_visit 124 = .ok (.if_icmp .ge 46, 3) := by decide +kernel
theorem dX8_visit_127 : decode cX8_visit 127 = .ok (.aload_n 1, 1) := by decide +kernel
theorem dX8_visit_128 : decode cX8_visit 128 = .ok (.iload 4, 2) := by decide +kernel
theorem dX8_visit_130 : decode cX8_visit 130 = .ok (.iload 5, 2) := by decide +kernel
theorem dX8_visit_132 : decode cX8_visit 132 = .ok (.iload 6, 2) := by decide +kernel
theorem dX8_visit_134 : decode cX8_visit 134 = .ok (.aload_n 0, 1) := by decide +kernel
theorem dX8_visit_135 : decode cX8_visit 135 = .ok (.getfield 46, 3) := by decide +kernel
theorem dX8_visit_138 : decode cX8_visit 138 = .ok (.iload_n 3, 1) := by decide +kernel
theorem dX8_visit_139 : decode cX8_visit 139 = .ok (.iaload, 1) := by decide +kernel
theorem dX8_visit_140 : decode cX8_visit 140 = .ok (.invokevirtual 82, 3) := by decide +kernel
theorem dX8_visit_143 : decode cX8_visit 143 = .ok (.lstore 7, 2) := by decide +kernel
theorem dX8_visit_145 : decode cX8_visit 145 = .ok (.aload_n 0, 1) := by decide +kernel
theorem dX8_visit_146 : decode cX8_visit 146 = .ok (.getfield 18, 3) := by decide +kernel
theorem dX8_visit_149 : decode cX8_visit 149 = .ok (.iload_n 2, 1) := by decide +kernel
theorem dX8_visit_150 : decode cX8_visit 150 = .ok (.lload 7, 2) := by decide +kernel
theorem dX8_visit_152 : decode cX8_visit 152 = .ok (.invokestatic 86, 3) := by decide +kernel
theorem dX8_visit_155 : decode cX8_visit 155 = .ok (.iastore, 1) := by decide +kernel
theorem dX8_visit_156 : decode cX8_visit 156 = .ok (.aload_n 0, 1) := by decide +kernel
theorem dX8_visit_157 : decode cX8_visit 157 = .ok (.aload_n 1, 1) := by decide +kernel
theorem dX8_visit_158 : decode cX8_visit 158 = .ok (.getfield 52, 3) := by decide +kernel
theorem dX8_visit_161 : decode cX8_visit 161 = .ok (.lload 7, 2) := by decide +kernel
theorem dX8_visit_163 : decode cX8_visit 163 = .ok (.iload 5, 2) := by decide +kernel
theorem dX8_visit_165 : decode cX8_visit 165 = .ok (.iload 6, 2) := by decide +kernel
theorem dX8_visit_167 : decode cX8_visit 167 = .ok (.invokevirtual 90, 3) := by decide +kernel
theorem dX8_visit_170 : decode cX8_visit 170 = .ok (.return_, 1) := by decide +kernel
theorem dX8_pushParts_0 : decode cX8_pushParts 0 = .ok (.lload_n 2, 1) := by decide +kernel
theorem dX8_pushParts_1 : decode cX8_pushParts 1 = .ok (.invokestatic 86, 3) := by decide +kernel
theorem dX8_pushParts_4 : decode cX8_pushParts 4 = .ok (.istore 6, 2) := by decide +kernel
theorem dX8_pushParts_6 : decode cX8_pushParts 6 = .ok (.iload 6, 2) := by decide +kernel
theorem dX8_pushParts_8 : decode cX8_pushParts 8 = .ok (.aload_n 1, 1) := by decide +kernel
theorem dX8_pushParts_9 : decode cX8_pushParts 9 = .ok (.getfield 94, 3) := by decide +kernel
theorem dX8_pushParts_12 : decode cX8_pushParts 12 = .ok (.if_icmp .lt 4, 3) := by decide +kernel
theorem dX8_pushParts_15 : decode cX8_pushParts 15 = .ok (.return_, 1) := by decide +kernel
theorem dX8_pushParts_16 : decode cX8_pushParts 16 = .ok (.iload 4, 2) := by decide +kernel
theorem dX8_pushParts_18 : decode cX8_pushParts 18 = .ok (.lload_n 2, 1) := by decide +kernel
theorem dX8_pushParts_19 : decode cX8_pushParts 19 = .ok (.invokestatic 96, 3) := by decide +kernel
theorem dX8_pushParts_22 : decode cX8_pushParts 22 = .ok (.iadd, 1) := by decide +kernel
theorem dX8_pushParts_23 : decode cX8_pushParts 23 = .ok (.istore 7, 2) := by decide +kernel
theorem dX8_pushParts_25 : decode cX8_pushParts 25 = .ok (.aload_n 1, 1) := by decide +kernel
theorem dX8_pushParts_26 : decode cX8_pushParts 26 = .ok (.getfield 99, 3) := by decide +kernel
theorem dX8_pushParts_29 : decode cX8_pushParts 29 = .ok (.iload 6, 2) := by decide +kernel
theorem dX8_pushParts_31 : decode cX8_pushParts 31 = .ok (.iaload, 1) := by decide +kernel
theorem dX8_pushParts_32 : decode cX8_pushParts 32 = .ok (.iconst (-1), 1) := by decide +kernel
theorem dX8_pushParts_33 : decode cX8_pushParts 33 = .ok (.if_icmp .ne 25, 3) := by decide +kernel
theorem dX8_pushParts_36 : decode cX8_pushParts 36 = .ok (.aload_n 0, 1) := by decide +kernel
theorem dX8_pushParts_37 : decode cX8_pushParts 37 = .ok (.aload_n 1, 1) := by decide +kernel
theorem dX8_pushParts_38 : decode cX8_pushParts 38 = .ok (.getfield 102, 3) := by decide +kernel
theorem dX8_pushParts_41 : decode cX8_pushParts 41 = .ok (.iload 6, 2) := by decide +kernel
theorem dX8_pushParts_43 : decode cX8_pushParts 43 = .ok (.iaload, 1) := by decide +kernel
theorem dX8_pushParts_44 : decode cX8_pushParts 44 = .ok (.iload 4, 2) := by decide +kernel
theorem dX8_pushParts_46 : decode cX8_pushParts 46 = .ok (.iload 5, 2) := by decide +kernel
theorem dX8_pushParts_48 : decode cX8_pushParts 48 = .ok (.lload_n 2, 1) := by decide +kernel
theorem dX8_pushParts_49 : decode cX8_pushParts 49 = .ok (.invokestatic 105, 3) := by decide +kernel
theorem dX8_pushParts_52 : decode cX8_pushParts 52 = .ok (.invokevirtual 66, 3) := by decide +kernel
theorem dX8_pushParts_55 : decode cX8_pushParts 55 = .ok (.goto 57, 3) := by decide +kernel
theorem dX8_pushParts_58 : decode cX8_pushParts 58 = .ok (.iload 7, 2) := by decide +kernel
theorem dX8_pushParts_60 : decode cX8_pushParts 60 = .ok (.iload 4, 2) := by decide +kernel
theorem dX8_pushParts_62 : decode cX8_pushParts 62 = .ok (.if_icmp .le 50, 3) := by decide +kernel
theorem dX8_pushParts_65 : decode cX8_pushParts 65 = .ok (.iload 7, 2) := by decide +kernel
theorem dX8_pushParts_67 : decode cX8_pushParts 67 = .ok (.iload 5, 2) := by decide +kernel
theorem dX8_pushParts_69 : decode cX8_pushParts 69 = .ok (.if_icmp .gt 43, 3) := by decide +kernel
theorem dX8_pushParts_72 : decode cX8_pushParts 72 = .ok (.aload_n 0, 1) := by decide +kernel
theorem dX8_pushParts_73 : decode cX8_pushParts 73 = .ok (.aload_n 1, 1) := by decide +kernel
theorem dX8_pushParts_74 : decode cX8_pushParts 74 = .ok (.getfield 99, 3) := by decide +kernel
theorem dX8_pushParts_77 : decode cX8_pushParts 77 = .ok (.iload 6, 2) := by decide +kernel
theorem dX8_pushParts_79 : decode cX8_pushParts 79 = .ok (.iaload, 1) := by decide +kernel
theorem dX8_pushParts_80 : decode cX8_pushParts 80 = .ok (.iload 7, 2) := by decide +kernel
theorem dX8_pushParts_82 : decode cX8_pushParts 82 = .ok (.iload 5, 2) := by decide +kernel
theorem dX8_pushParts_84 : decode cX8_pushParts 84 = .ok (.lload_n 2, 1) := by decide +kernel
theorem dX8_pushParts_85 : decode cX8_pushParts 85 = .ok (.invokestatic 108, 3) := by decide +kernel
theorem dX8_pushParts_88 : decode cX8_pushParts 88 = .ok (.invokevirtual 66, 3) := by decide +kernel
theorem dX8_pushParts_91 : decode cX8_pushParts 91 = .ok (.aload_n 0, 1) := by decide +kernel
theorem dX8_pushParts_92 : decode cX8_pushParts 92 = .ok (.aload_n 1, 1) := by decide +kernel
theorem dX8_pushParts_93 : decode cX8_pushParts 93 = .ok (.getfield 102, 3) := by decide +kernel
theorem dX8_pushParts_96 : decode cX8_pushParts 96 = .ok (.iload 6, 2) := by decide +kernel
theorem dX8_pushParts_98 : decode cX8_pushParts 98 = .ok (.iaload, 1) := by decide +kernel
theorem dX8_pushParts_99 : decode cX8_pushParts 99 = .ok (.iload 4, 2) := by decide +kernel
theorem dX8_pushParts_101 : decode cX8_pushParts 101 = .ok (.iload 7, 2) := by decide +kernel
theorem dX8_pushParts_103 : decode cX8_pushParts 103 = .ok (.iconst 1, 1) := by decide +kernel
theorem dX8_pushParts_104 : decode cX8_pushParts 104 = .ok (.isub, 1) := by decide +kernel
theorem dX8_pushParts_105 : decode cX8_pushParts 105 = .ok (.lload_n 2, 1) := by decide +kernel
theorem dX8_pushParts_106 : decode cX8_pushParts 106 = .ok (.invokestatic 105, 3) := by decide +kernel
theorem dX8_pushParts_109 : decode cX8_pushParts 109 = .ok (.invokevirtual 66, 3) := by decide +kernel
theorem dX8_pushParts_112 : decode cX8_pushParts 112 = .ok (.return_, 1) := by decide +kernel
theorem dX8_push_0 : decode cX8_push 0 = .ok (.aload_n 0, 1) := by decide +kernel
theorem dX8_push_1 : decode cX8_push 1 = .ok (.getfield 49, 3) := by decide +kernel
theorem dX8_push_4 : decode cX8_push 4 = .ok (.bipush 24, 2) := by decide +kernel
theorem dX8_push_6 : decode cX8_push 6 = .ok (.if_icmp .ge 54, 3) := by decide +kernel
theorem dX8_push_9 : decode cX8_push 9 = .ok (.aload_n 0, 1) := by decide +kernel
theorem dX8_push_10 : decode cX8_push 10 = .ok (.getfield 37, 3) := by decide +kernel
theorem dX8_push_13 : decode cX8_push 13 = .ok (.aload_n 0, 1) := by decide +kernel
theorem dX8_push_14 : decode cX8_push 14 = .ok (.getfield 49, 3) := by decide +kernel
theorem dX8_push_17 : decode cX8_push 17 = .ok (.iload_n 1, 1) := by decide +kernel
theorem dX8_push_18 : decode cX8_push 18 = .ok (.iastore, 1) := by decide +kernel
theorem dX8_push_19 : decode cX8_push 19 = .ok (.aload_n 0, 1) := by decide +kernel
theorem dX8_push_20 : decode cX8_push 20 = .ok (.getfield 40, 3) := by decide +kernel
theorem dX8_push_23 : decode cX8_push 23 = .ok (.aload_n 0, 1) := by decide +kernel
theorem dX8_push_24 : decode cX8_push 24 = .ok (.getfield 49, 3) := by decide +kernel
theorem dX8_push_27 : decode cX8_push 27 = .ok (.iload_n 2, 1) := by decide +kernel
theorem dX8_push_28 : decode cX8_push 28 = .ok (.iastore, 1) := by decide +kernel
theorem dX8_push_29 : decode cX8_push 29 = .ok (.aload_n 0, 1) := by decide +kernel
theorem dX8_push_30 : decode cX8_push 30 = .ok (.getfield 43, 3) := by decide +kernel
theorem dX8_push_33 : decode cX8_push 33 = .ok (.aload_n 0, 1) := by decide +kernel
theorem dX8_push_34 : decode cX8_push 34 = .ok (.getfield 49, 3) := by decide +kernel
theorem dX8_push_37 : decode cX8_push 37 = .ok (.iload_n 3, 1) := by decide +kernel
theorem dX8_push_38 : decode cX8_push 38 = .ok (.iastore, 1) := by decide +kernel
theorem dX8_push_39 : decode cX8_push 39 = .ok (.aload_n 0, 1) := by decide +kernel
theorem dX8_push_40 : decode cX8_push 40 = .ok (.getfield 46, 3) := by decide +kernel
theorem dX8_push_43 : decode cX8_push 43 = .ok (.aload_n 0, 1) := by decide +kernel
theorem dX8_push_44 : decode cX8_push 44 = .ok (.getfield 49, 3) := by decide +kernel
theorem dX8_push_47 : decode cX8_push 47 = .ok (.iload 4, 2) := by decide +kernel
theorem dX8_push_49 : decode cX8_push 49 = .ok (.iastore, 1) := by decide +kernel
theorem dX8_push_50 : decode cX8_push 50 = .ok (.aload_n 0, 1) := by decide +kernel
theorem dX8_push_51 : decode cX8_push 51 = .ok (.dup, 1) := by decide +kernel
theorem dX8_push_52 : decode cX8_push 52 = .ok (.getfield 49, 3) := by decide +kernel
theorem dX8_push_55 : decode cX8_push 55 = .ok (.iconst 1, 1) := by decide +kernel
theorem dX8_push_56 : decode cX8_push 56 = .ok (.iadd, 1) := by decide +kernel
theorem dX8_push_57 : decode cX8_push 57 = .ok (.putfield 49, 3) := by decide +kernel
theorem dX8_push_60 : decode cX8_push 60 = .ok (.return_, 1) := by decide +kernel
theorem dX8_degreeAt_0 : decode cX8_degreeAt 0 = .ok (.iload_n 1, 1) := by decide +kernel
theorem dX8_degreeAt_1 : decode cX8_degreeAt 1 = .ok (.ifCond .lt 18, 3) := by decide +kernel
theorem dX8_degreeAt_4 : decode cX8_degreeAt 4 = .ok (.iload_n 1, 1) := by decide +kernel
theorem dX8_degreeAt_5 : decode cX8_degreeAt 5 = .ok (.bipush 24, 2) := by decide +kernel
theorem dX8_degreeAt_7 : decode cX8_degreeAt 7 = .ok (.if_icmp .ge 12, 3) := by decide +kernel
theorem dX8_degreeAt_10 : decode cX8_degreeAt 10 = .ok (.aload_n 0, 1) := by decide +kernel
theorem dX8_degreeAt_11 : decode cX8_degreeAt 11 = .ok (.getfield 34, 3) := by decide +kernel
theorem dX8_degreeAt_14 : decode cX8_degreeAt 14 = .ok (.iload_n 1, 1) := by decide +kernel
theorem dX8_degreeAt_15 : decode cX8_degreeAt 15 = .ok (.iaload, 1) := by decide +kernel
theorem dX8_degreeAt_16 : decode cX8_degreeAt 16 = .ok (.goto 4, 3) := by decide +kernel
theorem dX8_degreeAt_19 : decode cX8_degreeAt 19 = .ok (.iconst (-1), 1) := by decide +kernel
theorem dX8_degreeAt_20 : decode cX8_degreeAt 20 = .ok (.ireturn, 1) := by decide +kernel
theorem dX9_init_0 : decode cX9_init 0 = .ok (.aload_n 0, 1) := by decide +kernel
theorem dX9_init_1 : decode cX9_init 1 = .ok (.invokespecial 3, 3) := by decide +kernel
theorem dX9_init_4 : decode cX9_init 4 = .ok (.aload_n 0, 1) := by decide +kernel
theorem dX9_init_5 : decode cX9_init 5 = .ok (.new 9, 3) := by decide +kernel
theorem dX9_init_8 : decode cX9_init 8 = .ok (.dup, 1) := by decide +kernel
theorem dX9_init_9 : decode cX9_init 9 = .ok (.invokespecial 11, 3) := by decide +kernel
theorem dX9_init_12 : decode cX9_init 12 = .ok (.putfield 12, 3) := by decide +kernel
theorem dX9_init_15 : decode cX9_init 15 = .ok (.aload_n 0, 1) := by decide +kernel
theorem dX9_init_16 : decode cX9_init 16 = .ok (.new 16, 3) := by decide +kernel
theorem dX9_init_19 : decode cX9_init 19 = .ok (.dup, 1) := by decide +kernel
theorem dX9_init_20 : decode cX9_init 20 = .ok (.invokespecial 18, 3) := by decide +kernel
theorem dX9_init_23 : decode cX9_init 23 = .ok (.putfield 19, 3) := by decide +kernel
theorem dX9_init_26 : decode cX9_init 26 = .ok (.aload_n 0, 1) := by decide +kernel
theorem dX9_init_27 : decode cX9_init 27 = .ok (.new 23, 3) := by decide +kernel
theorem dX9_init_30 : decode cX9_init 30 = .ok (.dup, 1) := by decide +kernel
theorem dX9_init_31 : decode cX9_init 31 = .ok (.invokespecial 25, 3) := by decide +kernel
theorem dX9_init_34 : decode cX9_init 34 = .ok (.putfield 26, 3) := by decide +kernel
theorem dX9_init_37 : decode cX9_init 37 = .ok (.aload_n 0, 1) := by decide +kernel
theorem dX9_init_38 : decode cX9_init 38 = .ok (.new 30, 3) := by decide +kernel
theorem dX9_init_41 : decode cX9_init 41 = .ok (.dup, 1) := by decide +kernel
theorem dX9_init_42 : decode cX9_init 42 = .ok (.invokespecial 32, 3) := by decide +kernel
theorem dX9_init_45 : decode cX9_init 45 = .ok (.putfield 33, 3) := by decide +kernel
theorem dX9_init_48 : decode cX9_init 48 = .ok (.aload_n 0, 1) := by decide +kernel
theorem dX9_init_49 : decode cX9_init 49 = .ok (.new 37, 3) := by decide +kernel
theorem dX9_init_52 : decode cX9_init 52 = .ok (.dup, 1) := by decide +kernel
theorem dX9_init_53 : decode cX9_init 53 = .ok (.invokespecial 39, 3) := by decide +kernel
theorem dX9_init_56 : decode cX9_init 56 = .ok (.putfield 40, 3) := by decide +kernel
theorem dX9_init_59 : decode cX9_init 59 = .ok (.aload_n 0, 1) := by decide +kernel
theorem dX9_init_60 : decode cX9_init 60 = .ok (.new 44, 3) := by decide +kernel
theorem dX9_init_63 : decode cX9_init 63 = .ok (.dup, 1) := by decide +kernel
theorem dX9_init_64 : decode cX9_init 64 = .ok (.invokespecial 46, 3) := by decide +kernel
theorem dX9_init_67 : decode cX9_init 67 = .ok (.putfield 47, 3) := by decide +kernel
theorem dX9_init_70 : decode cX9_init 70 = .ok (.aload_n 0, 1) := by decide +kernel
theorem dX9_init_71 : decode cX9_init 71 = .ok (.new 51, 3) := by decide +kernel
theorem dX9_init_74 : decode cX9_init 74 = .ok (.dup, 1) := by decide +kernel
theorem dX9_init_75 : decode cX9_init 75 = .ok (.invokespecial 53, 3) := by decide +kernel
theorem dX9_init_78 : decode cX9_init 78 = .ok (.putfield 54, 3) := by decide +kernel
theorem dX9_init_81 : decode cX9_init 81 = .ok (.aload_n 0, 1) := by decide +kernel
theorem dX9_init_82 : decode cX9_init 82 = .ok (.new 58, 3) := by decide +kernel
theorem dX9_init_85 : decode cX9_init 85 = .ok (.dup, 1) := by decide +kernel
theorem dX9_init_86 : decode cX9_init 86 = .ok (.invokespecial 60, 3) := by decide +kernel
theorem dX9_init_89 : decode cX9_init 89 = .ok (.putfield 61, 3) := by decide +kernel
theorem dX9_init_92 : decode cX9_init 92 = .ok (.return_, 1) := by decide +kernel
theorem dX9_key_0 : decode cX9_key 0 = .ok (.aload_n 0, 1) := by decide +kernel
theorem dX9_key_1 : decode cX9_key 1 = .ok (.getfield 12, 3) := by decide +kernel
theorem dX9_key_4 : decode cX9_key 4 = .ok (.iload_n 1, 1) := by decide +kernel
theorem dX9_key_5 : decode cX9_key 5 = .ok (.iload_n 2, 1) := by decide +kernel
theorem dX9_key_6 : decode cX9_key 6 = .ok (.invokevirtual 65, 3) := by decide +kernel
theorem dX9_key_9 : decode cX9_key 9 = .ok (.ireturn, 1) := by decide +kernel
theorem dX9_cost_0 : decode cX9_cost 0 = .ok (.aload_n 0, 1) := by decide +kernel
theorem dX9_cost_1 : decode cX9_cost 1 = .ok (.getfield 19, 3) := by decide +kernel
theorem dX9_cost_4 : decode cX9_cost 4 = .ok (.iload_n 1, 1) := by decide +kernel
theorem dX9_cost_5 : decode cX9_cost 5 = .ok (.iload_n 2, 1) := by decide +kernel
theorem dX9_cost_6 : decode cX9_cost 6 = .ok (.invokevirtual 69, 3) := by decide +kernel
theorem dX9_cost_9 : decode cX9_cost 9 = .ok (.ireturn, 1) := by decide +kernel
theorem dX9_draft_0 : decode cX9_draft 0 = .ok (.aload_n 0, 1) := by decide +kernel
theorem dX9_draft_1 : decode cX9_draft 1 = .ok (.getfield 33, 3) := by decide +kernel
theorem dX9_draft_4 : decode cX9_draft 4 = .ok (.iload_n 1, 1) := by decide +kernel
theorem dX9_draft_5 : decode cX9_draft 5 = .ok (.lload_n 2, 1) := by decide +kernel
theorem dX9_draft_6 : decode cX9_draft 6 = .ok (.invokevirtual 72, 3) := by decide +kernel
theorem dX9_draft_9 : decode cX9_draft 9 = .ok (.ireturn, 1) := by decide +kernel
theorem dX9_grammar_0 : decode cX9_grammar 0 = .ok (.aload_n 0, 1) := by decide +kernel
theorem dX9_grammar_1 : decode cX9_grammar 1 = .ok (.getfield 47, 3) := by decide +kernel
theorem dX9_grammar_4 : decode cX9_grammar 4 = .ok (.aload_n 0, 1) := by decide +kernel
theorem dX9_grammar_5 : decode cX9_grammar 5 = .ok (.getfield 33, 3) := by decide +kernel
theorem dX9_grammar_8 : decode cX9_grammar 8 = .ok (.invokevirtual 76, 3) := by decide +kernel
theorem dX9_grammar_11 : decode cX9_grammar 11 = .ok (.istore_n 1, 1) := by decide +kernel
theorem dX9_grammar_12 : decode cX9_grammar 12 = .ok (.aload_n 0, 1) := by decide +kernel
theorem dX9_grammar_13 : decode cX9_grammar 13 = .ok (.getfield 33, 3) := by decide +kernel
theorem dX9_grammar_16 : decode cX9_grammar 16 = .ok (.iconst 0, 1) := by decide +kernel
theorem dX9_grammar_17 : decode cX9_grammar 17 = .ok (.putfield 80, 3) := by decide +kernel
theorem dX9_grammar_20 : decode cX9_grammar 20 = .ok (.iload_n 1, 1) := by decide +kernel
theorem dX9_grammar_21 : decode cX9_grammar 21 = .ok (.iconst (-1), 1) := by decide +kernel
theorem dX9_grammar_22 : decode cX9_grammar 22 = .ok (.if_icmp .eq 8, 3) := by decide +kernel
theorem dX9_grammar_25 : decode cX9_grammar 25 = .ok (.bipush (-2), 2) := by decide +kernel
theorem dX9_grammar_27 : decode cX9_grammar 27 = .ok (.iload_n 1, 1) := by decide +kernel
theorem dX9_grammar_28 : decode cX9_grammar 28 = .ok (.isub, 1) := by decide +kernel
theorem dX9_grammar_29 : decode cX9_grammar 29 = .ok (.ireturn, 1) := by decide +kernel
theorem dX9_grammar_30 : decode cX9_grammar 30 = .ok (.aload_n 0, 1) := by decide +kernel
theorem dX9_grammar_31 : decode cX9_grammar 31 = .ok (.getfield 40, 3) := by decide +kernel
theorem dX9_grammar_34 : decode cX9_grammar 34 = .ok (.aload_n 0, 1) := by decide +kernel
theorem dX9_grammar_35 : decode cX9_grammar 35 = .ok (.getfield 47, 3) := by decide +kernel
theorem dX9_grammar_38 : decode cX9_grammar 38 = .ok (.getfield 84, 3) := by decide +kernel
theorem dX9_grammar_41 : decode cX9_grammar 41 = .ok (.invokevirtual 87, 3) := by decide +kernel
theorem dX9_grammar_44 : decode cX9_grammar 44 = .ok (.aload_n 0, 1) := by decide +kernel
theorem dX9_grammar_45 : decode cX9_grammar 45 = .ok (.getfield 40, 3) := by decide +kernel
theorem dX9_grammar_48 : decode cX9_grammar 48 = .ok (.getfield 91, 3) := by decide +kernel
theorem dX9_grammar_51 : decode cX9_grammar 51 = .ok (.ireturn, 1) := by decide +kernel
theorem dX9_slot_0 : decode cX9_slot 0 = .ok (.aload_n 0, 1) := by decide +kernel
theorem dX9_slot_1 : decode cX9_slot 1 = .ok (.getfield 26, 3) := by decide +kernel
theorem dX9_slot_4 : decode cX9_slot 4 = .ok (.iload_n 1, 1) := by decide +kernel
theorem dX9_slot_5 : decode cX9_slot 5 = .ok (.iload_n 2, 1) := by decide +kernel
theorem dX9_slot_6 : decode cX9_slot 6 = .ok (.iload_n 3, 1) := by decide +kernel
theorem dX9_slot_7 : decode cX9_slot 7 = .ok (.invokevirtual 94, 3) := by decide +kernel
theorem dX9_slot_10 : decode cX9_slot 10 = .ok (.ireturn, 1) := by decide +kernel
theorem dX9_clear_0 : decode cX9_clear 0 = .ok (.aload_n 0, 1) := by decide +kernel
theorem dX9_clear_1 : decode cX9_clear 1 = .ok (.getfield 26, 3) := by decide +kernel
theorem dX9_clear_4 : decode cX9_clear 4 = .ok (.getfield 98, 3) := by decide +kernel
theorem dX9_clear_7 : decode cX9_clear 7 = .ok (.istore_n 1, 1) := by decide +kernel
theorem dX9_clear_8 : decode cX9_clear 8 = .ok (.aload_n 0, 1) := by decide +kernel
theorem dX9_clear_9 : decode cX9_clear 9 = .ok (.getfield 26, 3) := by decide +kernel
theorem dX9_clear_12 : decode cX9_clear 12 = .ok (.iconst 0, 1) := by decide +kernel
theorem dX9_clear_13 : decode cX9_clear 13 = .ok (.putfield 98, 3) := by decide +kernel
theorem dX9_clear_16 : decode cX9_clear 16 = .ok (.iload_n 1, 1) := by decide +kernel
theorem dX9_clear_17 : decode cX9_clear 17 = .ok (.ireturn, 1) := by decide +kernel
theorem dX9_fit_0 : decode cX9_fit 0 = .ok (.aload_n 0, 1) := by decide +kernel
theorem dX9_fit_1 : decode cX9_fit 1 = .ok (.getfield 26, 3) := by decide +kernel
theorem dX9_fit_4 : decode cX9_fit 4 = .ok (.iload_n 1, 1) := by decide +kernel
theorem dX9_fit_5 : decode cX9_fit 5 = .ok (.invokevirtual 101, 3) := by decide +kernel
theorem dX9_fit_8 : decode cX9_fit 8 = .ok (.ifCond .eq 33, 3) := by decide +kernel
theorem dX9_fit_11 : decode cX9_fit 11 = .ok (.aload_n 0, 1) := by decide +kernel
theorem dX9_fit_12 : decode cX9_fit 12 = .ok (.getfield 19, 3) := by decide +kernel
theorem dX9_fit_15 : decode cX9_fit 15 = .ok (.aload_n 0, 1) := by decide +kernel
theorem dX9_fit_16 : decode cX9_fit 16 = .ok (.getfield 26, 3) := by decide +kernel
theorem dX9_fit_19 : decode cX9_fit 19 = .ok (.getfield 105, 3) := by decide +kernel
theorem dX9_fit_22 : decode cX9_fit 22 = .ok (.iload_n 1, 1) := by decide +kernel
theorem dX9_fit_23 : decode cX9_fit 23 = .ok (.iaload, 1) := by decide +kernel
theorem dX9_fit_24 : decode cX9_fit 24 = .ok (.aload_n 0, 1) := by decide +kernel
theorem dX9_fit_25 : decode cX9_fit 25 = .ok (.getfield 26, 3) := by decide +kernel
theorem dX9_fit_28 : decode cX9_fit 28 = .ok (.getfield 109, 3) := by decide +kernel
theorem dX9_fit_31 : decode cX9_fit 31 = .ok (.iload_n 1, 1) := by decide +kernel
theorem dX9_fit_32 : decode cX9_fit 32 = .ok (.iaload, 1) := by decide +kernel
theorem dX9_fit_33 : decode cX9_fit 33 = .ok (.iload_n 2, 1) := by decide +kernel
theorem dX9_fit_34 : decode cX9_fit 34 = .ok (.iload_n 3, 1) := by decide +kernel
theorem dX9_fit_35 : decode cX9_fit 35 = .ok (.invokevirtual 112, 3) := by decide +kernel
theorem dX9_fit_38 : decode cX9_fit 38 = .ok (.goto 4, 3) := by decide +kernel
theorem dX9_fit_41 : decode cX9_fit 41 = .ok (.iconst (-1), 1) := by decide +kernel
theorem dX9_fit_42 : decode cX9_fit 42 = .ok (.ireturn, 1) := by decide +kernel
theorem dX9_best_0 : decode cX9_best 0 = .ok (.aload_n 0, 1) := by decide +kernel
theorem dX9_best_1 : decode cX9_best 1 = .ok (.getfield 26, 3) := by decide +kernel
theorem dX9_best_4 : decode cX9_best 4 = .ok (.iload_n 1, 1) := by decide +kernel
theorem dX9_best_5 : decode cX9_best 5 = .ok (.invokevirtual 101, 3) := by decide +kernel
theorem dX9_best_8 : decode cX9_best 8 = .ok (.ifCond .eq 31, 3) := by decide +kernel
theorem dX9_best_11 : decode cX9_best 11 = .ok (.aload_n 0, 1) := by decide +kernel
theorem dX9_best_12 : decode cX9_best 12 = .ok (.getfield 19, 3) := by decide +kernel
theorem dX9_best_15 : decode cX9_best 15 = .ok (.aload_n 0, 1) := by decide +kernel
theorem dX9_best_16 : decode cX9_best 16 = .ok (.getfield 26, 3) := by decide +kernel
theorem dX9_best_19 : decode cX9_best 19 = .ok (.getfield 105, 3) := by decide +kernel
theorem dX9_best_22 : decode cX9_best 22 = .ok (.iload_n 1, 1) := by decide +kernel
theorem dX9_best_23 : decode cX9_best 23 = .ok (.iaload, 1) := by decide +kernel
theorem dX9_best_24 : decode cX9_best 24 = .ok (.aload_n 0, 1) := by decide +kernel
theorem dX9_best_25 : decode cX9_best 25 = .ok (.getfield 26, 3) := by decide +kernel
theorem dX9_best_28 : decode cX9_best 28 = .ok (.getfield 109, 3) := by decide +kernel
theorem dX9_best_31 : decode cX9_best 31 = .ok (.iload_n 1, 1) := by decide +kernel
theorem dX9_best_32 : decode cX9_best 32 = .ok (.iaload, 1) := by decide +kernel
theorem dX9_best_33 : decode cX9_best 33 = .ok (.invokevirtual 116, 3) := by decide +kernel
theorem dX9_best_36 : decode cX9_best 36 = .ok (.goto 4, 3) := by decide +kernel
theorem dX9_best_39 : decode cX9_best 39 = .ok (.iconst (-1), 1) := by decide +kernel
theorem dX9_best_40 : decode cX9_best 40 = .ok (.ireturn, 1) := by decide +kernel
theorem dX9_parse_0 : decode cX9_parse 0 = .ok (.aload_n 0, 1) := by decide +kernel
theorem dX9_parse_1 : decode cX9_parse 1 = .ok (.getfield 40, 3) := by decide +kernel
theorem dX9_parse_4 : decode cX9_parse 4 = .ok (.getfield 91, 3) := by decide +kernel
theorem dX9_parse_7 : decode cX9_parse 7 = .ok (.ifCond .eq 13, 3) := by decide +kernel
theorem dX9_parse_10 : decode cX9_parse 10 = .ok (.aload_n 0, 1) := by decide +kernel
theorem dX9_parse_11 : decode cX9_parse 11 = .ok (.getfield 26, 3) := by decide +kernel
theorem dX9_parse_14 : decode cX9_parse 14 = .ok (.getfield 98, 3) := by decide +kernel
theorem dX9_parse_17 : decode cX9_parse 17 = .ok (.ifCond .ne 5, 3) := by decide +kernel
theorem dX9_parse_20 : decode cX9_parse 20 = .ok (.iconst (-1), 1) := by decide +kernel
theorem dX9_parse_21 : decode cX9_parse 21 = .ok (.ireturn, 1) := by decide +kernel
theorem dX9_parse_22 : decode cX9_parse 22 = .ok (.aload_n 0, 1) := by decide +kernel
theorem dX9_parse_23 : decode cX9_parse 23 = .ok (.getfield 54, 3) := by decide +kernel
theorem dX9_parse_26 : decode cX9_parse 26 = .ok (.aload_n 0, 1) := by decide +kernel
theorem dX9_parse_27 : decode cX9_parse 27 = .ok (.getfield 40, 3) := by decide +kernel
theorem dX9_parse_30 : decode cX9_parse 30 = .ok (.aload_n 0, 1) := by decide +kernel
theorem dX9_parse_31 : decode cX9_parse 31 = .ok (.getfield 26, 3) := by decide +kernel
theorem dX9_parse_34 : decode cX9_parse 34 = .ok (.aload_n 0, 1) := by decide +kernel
theorem dX9_parse_35 : decode cX9_parse 35 = .ok (.getfield 12, 3) := by decide +kernel
theorem dX9_parse_38 : decode cX9_parse 38 = .ok (.aload_n 0, 1) := by decide +kernel
theorem dX9_parse_39 : decode cX9_parse 39 = .ok (.getfield 19, 3) := by decide +kernel
theorem dX9_parse_42 : decode cX9_parse 42 = .ok (.invokevirtual 120, 3) := by decide +kernel
theorem dX9_parse_45 : decode cX9_parse 45 = .ok (.aload_n 0, 1) := by decide +kernel
theorem dX9_parse_46 : decode cX9_parse 46 = .ok (.getfield 61, 3) := by decide +kernel
theorem dX9_parse_49 : decode cX9_parse 49 = .ok (.iconst (-1), 1) := by decide +kernel
theorem dX9_parse_50 : decode cX9_parse 50 = .ok (.putfield 124, 3) := by decide +kernel
theorem dX9_parse_53 : decode cX9_parse 53 = .ok (.aload_n 0, 1) := by decide +kernel
theorem dX9_parse_54 : decode cX9_parse 54 = .ok (.getfield 54, 3) := by decide +kernel
theorem dX9_parse_57 : decode cX9_parse 57 = .ok (.invokevirtual 127, 3) := by decide +kernel
theorem dX9_parse_60 : decode cX9_parse 60 = .ok (.ireturn, 1) := by decide +kernel
theorem dX9_readings_0 : decode cX9_readings 0 = .ok (.aload_n 0, 1) := by decide +kernel
theorem dX9_readings_1 : decode cX9_readings 1 = .ok (.getfield 54, 3) := by decide +kernel
theorem dX9_readings_4 : decode cX9_readings 4 = .ok (.invokevirtual 131, 3) := by decide +kernel
theorem dX9_readings_7 : decode cX9_readings 7 = .ok (.lreturn, 1) := by decide +kernel
theorem dX9_price_0 : decode cX9_price 0 = .ok (.aload_n 0, 1) := by decide +kernel
theorem dX9_price_1 : decode cX9_price 1 = .ok (.iload_n 1, 1) := by decide +kernel
theorem dX9_price_2 : decode cX9_price 2 = .ok (.invokevirtual 135, 3) := by decide +kernel
theorem dX9_price_5 : decode cX9_price 5 = .ok (.ifCond .eq 14, 3) := by decide +kernel
theorem dX9_price_8 : decode cX9_price 8 = .ok (.aload_n 0, 1) := by decide +kernel
theorem dX9_price_9 : decode cX9_price 9 = .ok (.getfield 54, 3) := by decide +kernel
theorem dX9_price_12 : decode cX9_price 12 = .ok (.iload_n 1, 1) := by decide +kernel
theorem dX9_price_13 : decode cX9_price 13 = .ok (.invokevirtual 138, 3) := by decide +kernel
theorem dX9_price_16 : decode cX9_price 16 = .ok (.goto 4, 3) := by decide +kernel
theorem dX9_price_19 : decode cX9_price 19 = .ok (.iconst (-1), 1) := by decide +kernel
theorem dX9_price_20 : decode cX9_price 20 = .ok (.ireturn, 1) := by decide +kernel
theorem dX9_node_0 : decode cX9_node 0 = .ok (.aload_n 0, 1) := by decide +kernel
theorem dX9_node_1 : decode cX9_node 1 = .ok (.iload_n 1, 1) := by decide +kernel
theorem dX9_node_2 : decode cX9_node 2 = .ok (.invokevirtual 135, 3) := by decide +kernel
theorem dX9_node_5 : decode cX9_node 5 = .ok (.ifCond .ne 5, 3) := by decide +kernel
theorem dX9_node_8 : decode cX9_node 8 = .ok (.iconst (-1), 1) := by decide +kernel
theorem dX9_node_9 : decode cX9_node 9 = .ok (.ireturn, 1) := by decide +kernel
theorem dX9_node_10 : decode cX9_node 10 = .ok (.aload_n 0, 1) := by decide +kernel
theorem dX9_node_11 : decode cX9_node 11 = .ok (.iload_n 1, 1) := by decide +kernel
theorem dX9_node_12 : decode cX9_node 12 = .ok (.invokevirtual 142, 3) := by decide +kernel
theorem dX9_node_15 : decode cX9_node 15 = .ok (.pop, 1) := by decide +kernel
theorem dX9_node_16 : decode cX9_node 16 = .ok (.iload_n 2, 1) := by decide +kernel
theorem dX9_node_17 : decode cX9_node 17 = .ok (.ifCond .lt 14, 3) := by decide +kernel
theorem dX9_node_20 : decode cX9_node 20 = .ok (.iload_n 2, 1) := by decide +kernel
theorem dX9_node_21 : decode cX9_node 21 = .ok (.aload_n 0, 1) := by decide +kernel
theorem dX9_node_22 : decode cX9_node 22 = .ok (.getfield 61, 3) := by decide +kernel
theorem dX9_node_25 : decode cX9_node 25 = .ok (.getfield 146, 3) := by decide +kernel
theorem dX9_node_28 : decode cX9_node 28 = .ok (.if_icmp .lt 5, 3) := by decide +kernel
theorem dX9_node_31 : decode cX9_node 31 = .ok (.iconst (-1), 1) := by decide +kernel
theorem dX9_node_32 : decode cX9_node 32 = .ok (.ireturn, 1) := by decide +kernel
theorem dX9_node_33 : decode cX9_node 33 = .ok (.iload_n 3, 1) := by decide +kernel
theorem dX9_node_34 : decode cX9_node 34 = .ok (.tableswitch 70 0 3 #[30, 40, 50, 60], 30) := by decide +kernel
theorem dX9_node_64 : decode cX9_node 64 = .ok (.aload_n 0, 1) := by decide +kernel
theorem dX9_node_65 : decode cX9_node 65 = .ok (.getfield 61, 3) := by decide +kernel
theorem dX9_node_68 : decode cX9_node 68 = .ok (.getfield 147, 3) := by decide +kernel
theorem dX9_node_71 : decode cX9_node 71 = .ok (.iload_n 2, 1) := by decide +kernel
theorem dX9_node_72 : decode cX9_node 72 = .ok (.iaload, 1) := by decide +kernel
theorem dX9_node_73 : decode cX9_node 73 = .ok (.ireturn, 1) := by decide +kernel
theorem dX9_node_74 : decode cX9_node 74 = .ok (.aload_n 0, 1) := by decide +kernel
theorem dX9_node_75 : decode cX9_node 75 = .ok (.getfield 61, 3) := by decide +kernel
theorem dX9_node_78 : decode cX9_node 78 = .ok (.getfield 149, 3) := by decide +kernel
theorem dX9_node_81 : decode cX9_node 81 = .ok (.iload_n 2, 1) := by decide +kernel
theorem dX9_node_82 : decode cX9_node 82 = .ok (.iaload, 1) := by decide +kernel
theorem dX9_node_83 : decode cX9_node 83 = .ok (.ireturn, 1) := by decide +kernel
theorem dX9_node_84 : decode cX9_node 84 = .ok (.aload_n 0, 1) := by decide +kernel
theorem dX9_node_85 : decode cX9_node 85 = .ok (.getfield 61, 3) := by decide +kernel
theorem dX9_node_88 : decode cX9_node 88 = .ok (.getfield 152, 3) := by decide +kernel
theorem dX9_node_91 : decode cX9_node 91 = .ok (.iload_n 2, 1) := by decide +kernel
theorem dX9_node_92 : decode cX9_node 92 = .ok (.iaload, 1) := by decide +kernel
theorem dX9_node_93 : decode cX9_node 93 = .ok (.ireturn, 1) := by decide +kernel
theorem dX9_node_94 : decode cX9_node 94 = .ok (.aload_n 0, 1) := by decide +kernel
theorem dX9_node_95 : decode cX9_node 95 = .ok (.getfield 61, 3) := by decide +kernel
theorem dX9_node_98 : decode cX9_node 98 = .ok (.getfield 155, 3) := by decide +kernel
theorem dX9_node_101 : decode cX9_node 101 = .ok (.iload_n 2, 1) := by decide +kernel
theorem dX9_node_102 : decode cX9_node 102 = .ok (.iaload, 1) := by decide +kernel
theorem dX9_node_103 : decode cX9_node 103 = .ok (.ireturn, 1) := by decide +kernel
theorem dX9_node_104 : decode cX9_node 104 = .ok (.iconst (-1), 1) := by decide +kernel
theorem dX9_node_105 : decode cX9_node 105 = .ok (.ireturn, 1) := by decide +kernel
theorem dX9_nodes_0 : decode cX9_nodes 0 = .ok (.aload_n 0, 1) := by decide +kernel
theorem dX9_nodes_1 : decode cX9_nodes 1 = .ok (.iload_n 1, 1) := by decide +kernel
theorem dX9_nodes_2 : decode cX9_nodes 2 = .ok (.invokevirtual 135, 3) := by decide +kernel
theorem dX9_nodes_5 : decode cX9_nodes 5 = .ok (.ifCond .eq 14, 3) := by decide +kernel
theorem dX9_nodes_8 : decode cX9_nodes 8 = .ok (.aload_n 0, 1) := by decide +kernel
theorem dX9_nodes_9 : decode cX9_nodes 9 = .ok (.iload_n 1, 1) := by decide +kernel
theorem dX9_nodes_10 : decode cX9_nodes 10 = .ok (.invokevirtual 142, 3) := by decide +kernel
theorem dX9_nodes_13 : decode cX9_nodes 13 = .ok (.getfield 146, 3) := by decide +kernel
theorem dX9_nodes_16 : decode cX9_nodes 16 = .ok (.goto 4, 3) := by decide +kernel
theorem dX9_nodes_19 : decode cX9_nodes 19 = .ok (.iconst (-1), 1) := by decide +kernel
theorem dX9_nodes_20 : decode cX9_nodes 20 = .ok (.ireturn, 1) := by decide +kernel
theorem dX9_chord_0 : decode cX9_chord 0 = .ok (.aload_n 0, 1) := by decide +kernel
theorem dX9_chord_1 : decode cX9_chord 1 = .ok (.iload_n 1, 1) := by decide +kernel
theorem dX9_chord_2 : decode cX9_chord 2 = .ok (.invokevirtual 135, 3) := by decide +kernel
theorem dX9_chord_5 : decode cX9_chord 5 = .ok (.ifCond .eq 27, 3) := by decide +kernel
theorem dX9_chord_8 : decode cX9_chord 8 = .ok (.aload_n 0, 1) := by decide +kernel
theorem dX9_chord_9 : decode cX9_chord 9 = .ok (.getfield 54, 3) := by decide +kernel
theorem dX9_chord_12 : decode cX9_chord 12 = .ok (.iload_n 2, 1) := by decide +kernel
theorem dX9_chord_13 : decode cX9_chord 13 = .ok (.invokevirtual 158, 3) := by decide +kernel
theorem dX9_chord_16 : decode cX9_chord 16 = .ok (.ifCond .eq 16, 3) := by decide +kernel
theorem dX9_chord_19 : decode cX9_chord 19 = .ok (.aload_n 0, 1) := by decide +kernel
theorem dX9_chord_20 : decode cX9_chord 20 = .ok (.iload_n 1, 1) := by decide +kernel
theorem dX9_chord_21 : decode cX9_chord 21 = .ok (.invokevirtual 142, 3) := by decide +kernel
theorem dX9_chord_24 : decode cX9_chord 24 = .ok (.getfield 161, 3) := by decide +kernel
theorem dX9_chord_27 : decode cX9_chord 27 = .ok (.iload_n 2, 1) := by decide +kernel
theorem dX9_chord_28 : decode cX9_chord 28 = .ok (.iaload, 1) := by decide +kernel
theorem dX9_chord_29 : decode cX9_chord 29 = .ok (.goto 4, 3) := by decide +kernel
theorem dX9_chord_32 : decode cX9_chord 32 = .ok (.iconst (-1), 1) := by decide +kernel
theorem dX9_chord_33 : decode cX9_chord 33 = .ok (.ireturn, 1) := by decide +kernel
theorem dX9_cadence_0 : decode cX9_cadence 0 = .ok (.aload_n 0, 1) := by decide +kernel
theorem dX9_cadence_1 : decode cX9_cadence 1 = .ok (.iload_n 1, 1) := by decide +kernel
theorem dX9_cadence_2 : decode cX9_cadence 2 = .ok (.invokevirtual 135, 3) := by decide +kernel
theorem dX9_cadence_5 : decode cX9_cadence 5 = .ok (.ifCond .ne 5, 3) := by decide +kernel
theorem dX9_cadence_8 : decode cX9_cadence 8 = .ok (.iconst (-1), 1) := by decide +kernel
theorem dX9_cadence_9 : decode cX9_cadence 9 = .ok (.ireturn, 1) := by decide +kernel
theorem dX9_cadence_10 : decode cX9_cadence 10 = .ok (.aload_n 0, 1) := by decide +kernel
theorem dX9_cadence_11 : decode cX9_cadence 11 = .ok (.iload_n 1, 1) := by decide +kernel
theorem dX9_cadence_12 : decode cX9_cadence 12 = .ok (.invokevirtual 142, 3) := by decide +kernel
theorem dX9_cadence_15 : decode cX9_cadence 15 = .ok (.pop, 1) := by decide +kernel
theorem dX9_cadence_16 : decode cX9_cadence 16 = .ok (.aload_n 0, 1) := by decide +kernel
theorem dX9_cadence_17 : decode cX9_cadence 17 = .ok (.getfield 61, 3) := by decide +kernel
theorem dX9_cadence_20 : decode cX9_cadence 20 = .ok (.aload_n 0, 1) := by decide +kernel
theorem dX9_cadence_21 : decode cX9_cadence 21 = .ok (.getfield 54, 3) := by decide +kernel
theorem dX9_cadence_24 : decode cX9_cadence 24 = .ok (.getfield 164, 3) := by decide +kernel
theorem dX9_cadence_27 : decode cX9_cadence 27 = .ok (.iconst 2, 1) := by decide +kernel
theorem dX9_cadence_28 : decode cX9_cadence 28 = .ok (.isub, 1) := by decide +kernel
theorem dX9_cadence_29 : decode cX9_cadence 29 = .ok (.invokevirtual 166, 3) := by decide +kernel
theorem dX9_cadence_32 : decode cX9_cadence 32 = .ok (.aload_n 0, 1) := by decide +kernel
theorem dX9_cadence_33 : decode cX9_cadence 33 = .ok (.getfield 61, 3) := by decide +kernel
theorem dX9_cadence_36 : decode cX9_cadence 36 = .ok (.aload_n 0, 1) := by decide +kernel
theorem dX9_cadence_37 : decode cX9_cadence 37 = .ok (.getfield 54, 3) := by decide +kernel
theorem dX9_cadence_40 : decode cX9_cadence 40 = .ok (.getfield 164, 3) := by decide +kernel
theorem dX9_cadence_43 : decode cX9_cadence 43 = .ok (.iconst 1, 1) := by decide +kernel
theorem dX9_cadence_44 : decode cX9_cadence 44 = .ok (.isub, 1) := by decide +kernel
theorem dX9_cadence_45 : decode cX9_cadence 45 = .ok (.invokevirtual 166, 3) := by decide +kernel
theorem dX9_cadence_48 : decode cX9_cadence 48 = .ok (.invokestatic 169, 3) := by decide +kernel
theorem dX9_cadence_51 : decode cX9_cadence 51 = .ok (.ireturn, 1) := by decide +kernel
theorem dX9_melody_0 : decode cX9_melody 0 = .ok (.aload_n 0, 1) := by decide +kernel
theorem dX9_melody_1 : decode cX9_melody 1 = .ok (.iload_n 1, 1) := by decide +kernel
theorem dX9_melody_2 : decode cX9_melody 2 = .ok (.invokevirtual 135, 3) := by decide +kernel
theorem dX9_melody_5 : decode cX9_melody 5 = .ok (.ifCond .ne 5, 3) := by decide +kernel
theorem dX9_melody_8 : decode cX9_melody 8 = .ok (.iconst (-1), 1) := by decide +kernel
theorem dX9_melody_9 : decode cX9_melody 9 = .ok (.ireturn, 1) := by decide +kernel
theorem dX9_melody_10 : decode cX9_melody 10 = .ok (.aload_n 0, 1) := by decide +kernel
theorem dX9_melody_11 : decode cX9_melody 11 = .ok (.getfield 54, 3) := by decide +kernel
theorem dX9_melody_14 : decode cX9_melody 14 = .ok (.iload_n 2, 1) := by decide +kernel
theorem dX9_melody_15 : decode cX9_melody 15 = .ok (.invokevirtual 172, 3) := by decide +kernel
theorem dX9_melody_18 : decode cX9_melody 18 = .ok (.istore_n 3, 1) := by decide +kernel
theorem dX9_melody_19 : decode cX9_melody 19 = .ok (.aload_n 0, 1) := by decide +kernel
theorem dX9_melody_20 : decode cX9_melody 20 = .ok (.iload_n 1, 1) := by decide +kernel
theorem dX9_melody_21 : decode cX9_melody 21 = .ok (.iload_n 2, 1) := by decide +kernel
theorem dX9_melody_22 : decode cX9_melody 22 = .ok (.invokevirtual 175, 3) := by decide +kernel
theorem dX9_melody_25 : decode cX9_melody 25 = .ok (.istore 4, 2) := by decide +kernel
theorem dX9_melody_27 : decode cX9_melody 27 = .ok (.iload_n 3, 1) := by decide +kernel
theorem dX9_melody_28 : decode cX9_melody 28 = .ok (.iconst (-1), 1) := by decide +kernel
theorem dX9_melody_29 : decode cX9_melody 29 = .ok (.if_icmp .eq 9, 3) := by decide +kernel
theorem dX9_melody_32 : decode cX9_melody 32 = .ok (.iload 4, 2) := by decide +kernel
theorem dX9_melody_34 : decode cX9_melody 34 = .ok (.iconst (-1), 1) := by decide +kernel
theorem dX9_melody_35 : decode cX9_melody 35 = .ok (.if_icmp .ne 5, 3) := by decide +kernel
theorem dX9_melody_38 : decode cX9_melody 38 = .ok (.iconst (-1), 1) := by decide +kernel
theorem dX9_melody_39 : decode cX9_melody 39 = .ok (.ireturn, 1) := by decide +kernel
theorem dX9_melody_40 : decode cX9_melody 40 = .ok (.iload 4, 2) := by decide +kernel
theorem dX9_melody_42 : decode cX9_melody 42 = .ok (.bipush 12, 2) := by decide +kernel
theorem dX9_melody_44 : decode cX9_melody 44 = .ok (.irem, 1) := by decide +kernel
theorem dX9_melody_45 : decode cX9_melody 45 = .ok (.iload 4, 2) := by decide +kernel
theorem dX9_melody_47 : decode cX9_melody 47 = .ok (.bipush 12, 2) := by decide +kernel
theorem dX9_melody_49 : decode cX9_melody 49 = .ok (.idiv, 1) := by decide +kernel
theorem dX9_melody_50 : decode cX9_melody 50 = .ok (.invokestatic 178, 3) := by decide +kernel
theorem dX9_melody_53 : decode cX9_melody 53 = .ok (.iload_n 3, 1) := by decide +kernel
theorem dX9_melody_54 : decode cX9_melody 54 = .ok (.bipush 12, 2) := by decide +kernel
theorem dX9_melody_56 : decode cX9_melody 56 = .ok (.irem, 1) := by decide +kernel
theorem dX9_melody_57 : decode cX9_melody 57 = .ok (.iushr, 1) := by decide +kernel
theorem dX9_melody_58 : decode cX9_melody 58 = .ok (.iconst 1, 1) := by decide +kernel
theorem dX9_melody_59 : decode cX9_melody 59 = .ok (.iand, 1) := by decide +kernel
theorem dX9_melody_60 : decode cX9_melody 60 = .ok (.ifCond .eq 5, 3) := by decide +kernel
theorem dX9_melody_63 : decode cX9_melody 63 = .ok (.iconst 0, 1) := by decide +kernel
theorem dX9_melody_64 : decode cX9_melody 64 = .ok (.ireturn, 1) := by decide +kernel
theorem dX9_melody_65 : decode cX9_melody 65 = .ok (.aload_n 0, 1) := by decide +kernel
theorem dX9_melody_66 : decode cX9_melody 66 = .ok (.getfield 54, 3) := by decide +kernel
theorem dX9_melody_69 : decode cX9_melody 69 = .ok (.iload_n 2, 1) := by decide +kernel
theorem dX9_melody_70 : decode cX9_melody 70 = .ok (.iconst 1, 1) := by decide +kernel
theorem dX9_melody_71 : decode cX9_melody 71 = .ok (.isub, 1) := by decide +kernel
theorem dX9_melody_72 : decode cX9_melody 72 = .ok (.invokevirtual 172, 3) := by decide +kernel
theorem dX9_melody_75 : decode cX9_melody 75 = .ok (.iload_n 3, 1) := by decide +kernel
theorem dX9_melody_76 : decode cX9_melody 76 = .ok (.aload_n 0, 1) := by decide +kernel
theorem dX9_melody_77 : decode cX9_melody 77 = .ok (.getfield 54, 3) := by decide +kernel
theorem dX9_melody_80 : decode cX9_melody 80 = .ok (.iload_n 2, 1) := by decide +kernel
theorem dX9_melody_81 : decode cX9_melody 81 = .ok (.iconst 1, 1) := by decide +kernel
theorem dX9_melody_82 : decode cX9_melody 82 = .ok (.iadd, 1) := by decide +kernel
theorem dX9_melody_83 : decode cX9_melody 83 = .ok (.invokevirtual 172, 3) := by decide +kernel
theorem dX9_melody_86 : decode cX9_melody 86 = .ok (.invokestatic 181, 3) := by decide +kernel
theorem dX9_melody_89 : decode cX9_melody 89 = .ok (.ireturn, 1) := by decide +kernel
theorem dX9_cell_0 : decode cX9_cell 0 = .ok (.iload_n 1, 1) := by decide +kernel
theorem dX9_cell_1 : decode cX9_cell 1 = .ok (.ifCond .lt 29, 3) := by decide +kernel
theorem dX9_cell_4 : decode cX9_cell 4 = .ok (.iload_n 1, 1) := by decide +kernel
theorem dX9_cell_5 : decode cX9_cell 5 = .ok (.iload_n 2, 1) := by decide +kernel
theorem dX9_cell_6 : decode cX9_cell 6 = .ok (.if_icmp .gt 24, 3) := by decide +kernel
theorem dX9_cell_9 : decode cX9_cell 9 = .ok (.iload_n 2, 1) := by decide +kernel
theorem dX9_cell_10 : decode cX9_cell 10 = .ok (.aload_n 0, 1) := by decide +kernel
theorem dX9_cell_11 : decode cX9_cell 11 = .ok (.getfield 54, 3) := by decide +kernel
theorem dX9_cell_14 : decode cX9_cell 14 = .ok (.getfield 164, 3) := by decide +kernel
theorem dX9_cell_17 : decode cX9_cell 17 = .ok (.if_icmp .ge 13, 3) := by decide +kernel
theorem dX9_cell_20 : decode cX9_cell 20 = .ok (.iload_n 3, 1) := by decide +kernel
theorem dX9_cell_21 : decode cX9_cell 21 = .ok (.ifCond .lt 9, 3) := by decide +kernel
theorem dX9_cell_24 : decode cX9_cell 24 = .ok (.iload_n 3, 1) := by decide +kernel
theorem dX9_cell_25 : decode cX9_cell 25 = .ok (.bipush 26, 2) := by decide +kernel
theorem dX9_cell_27 : decode cX9_cell 27 = .ok (.if_icmp .lt 13, 3) := by decide +kernel
theorem dX9_cell_30 : decode cX9_cell 30 = .ok (.new 184, 3) := by decide +kernel
theorem dX9_cell_33 : decode cX9_cell 33 = .ok (.dup, 1) := by decide +kernel
theorem dX9_cell_34 : decode cX9_cell 34 = .ok (.ldc 186, 2) := by decide +kernel
theorem dX9_cell_36 : decode cX9_cell 36 = .ok (.invokespecial 188, 3) := by decide +kernel
theorem dX9_cell_39 : decode cX9_cell 39 = .ok (.athrow, 1) := by decide +kernel
theorem dX9_cell_40 : decode cX9_cell 40 = .ok (.aload_n 0, 1) := by decide +kernel
theorem dX9_cell_41 : decode cX9_cell 41 = .ok (.getfield 54, 3) := by decide +kernel
theorem dX9_cell_44 : decode cX9_cell 44 = .ok (.iload_n 3, 1) := by decide +kernel
theorem dX9_cell_45 : decode cX9_cell 45 = .ok (.iload_n 1, 1) := by decide +kernel
theorem dX9_cell_46 : decode cX9_cell 46 = .ok (.iload_n 2, 1) := by decide +kernel
theorem dX9_cell_47 : decode cX9_cell 47 = .ok (.invokevirtual 191, 3) := by decide +kernel
theorem dX9_cell_50 : decode cX9_cell 50 = .ok (.lreturn, 1) := by decide +kernel
theorem dX9_told_0 : decode cX9_told 0 = .ok (.iload_n 1, 1) := by decide +kernel
theorem dX9_told_1 : decode cX9_told 1 = .ok (.tableswitch 75 0 4 #[35, 43, 51, 59, 67], 35) := by decide +kernel
theorem dX9_told_36 : decode cX9_told 36 = .ok (.aload_n 0, 1) := by decide +kernel
theorem dX9_told_37 : decode cX9_told 37 = .ok (.getfield 26, 3) := by decide +kernel
theorem dX9_told_40 : decode cX9_told 40 = .ok (.getfield 98, 3) := by decide +kernel
theorem dX9_told_43 : decode cX9_told 43 = .ok (.ireturn, 1) := by decide +kernel
theorem dX9_told_44 : decode cX9_told 44 = .ok (.aload_n 0, 1) := by decide +kernel
theorem dX9_told_45 : decode cX9_told 45 = .ok (.getfield 40, 3) := by decide +kernel
theorem dX9_told_48 : decode cX9_told 48 = .ok (.getfield 91, 3) := by decide +kernel
theorem dX9_told_51 : decode cX9_told 51 = .ok (.ireturn, 1) := by decide +kernel
theorem dX9_told_52 : decode cX9_told 52 = .ok (.aload_n 0, 1) := by decide +kernel
theorem dX9_told_53 : decode cX9_told 53 = .ok (.getfield 33, 3) := by decide +kernel
theorem dX9_told_56 : decode cX9_told 56 = .ok (.getfield 80, 3) := by decide +kernel
theorem dX9_told_59 : decode cX9_told 59 = .ok (.ireturn, 1) := by decide +kernel
theorem dX9_told_60 : decode cX9_told 60 = .ok (.aload_n 0, 1) := by decide +kernel
theorem dX9_told_61 : decode cX9_told 61 = .ok (.getfield 54, 3) := by decide +kernel
theorem dX9_told_64 : decode cX9_told 64 = .ok (.invokevirtual 127, 3) := by decide +kernel
theorem dX9_told_67 : decode cX9_told 67 = .ok (.ireturn, 1) := by decide +kernel
theorem dX9_told_68 : decode cX9_told 68 = .ok (.aload_n 0, 1) := by decide +kernel
theorem dX9_told_69 : decode cX9_told 69 = .ok (.getfield 54, 3) := by decide +kernel
theorem dX9_told_72 : decode cX9_told 72 = .ok (.getfield 164, 3) := by decide +kernel
theorem dX9_told_75 : decode cX9_told 75 = .ok (.ireturn, 1) := by decide +kernel
theorem dX9_told_76 : decode cX9_told 76 = .ok (.iconst (-1), 1) := by decide +kernel
theorem dX9_told_77 : decode cX9_told 77 = .ok (.ireturn, 1) := by decide +kernel
theorem dX9_isListed_0 : decode cX9_isListed 0 = .ok (.iload_n 1, 1) := by decide +kernel
theorem dX9_isListed_1 : decode cX9_isListed 1 = .ok (.ifCond .lt 18, 3) := by decide +kernel
theorem dX9_isListed_4 : decode cX9_isListed 4 = .ok (.iload_n 1, 1) := by decide +kernel
theorem dX9_isListed_5 : decode cX9_isListed 5 = .ok (.aload_n 0, 1) := by decide +kernel
theorem dX9_isListed_6 : decode cX9_isListed 6 = .ok (.getfield 54, 3) := by decide +kernel
theorem dX9_isListed_9 : decode cX9_isListed 9 = .ok (.invokevirtual 127, 3) := by decide +kernel
theorem dX9_isListed_12 : decode cX9_isListed 12 = .ok (.if_icmp .ge 7, 3) := by decide +kernel
theorem dX9_isListed_15 : decode cX9_isListed 15 = .ok (.iconst 1, 1) := by decide +kernel
theorem dX9_isListed_16 : decode cX9_isListed 16 = .ok (.goto 4, 3) := by decide +kernel
theorem dX9_isListed_19 : decode cX9_isListed 19 = .ok (.iconst 0, 1) := by decide +kernel
theorem dX9_isListed_20 : decode cX9_isListed 20 = .ok (.ireturn, 1) := by decide +kernel
theorem dX9_treeOf_0 : decode cX9_treeOf 0 = .ok (.aload_n 0, 1) := by decide +kernel
theorem dX9_treeOf_1 : decode cX9_treeOf 1 = .ok (.getfield 61, 3) := by decide +kernel
theorem dX9_treeOf_4 : decode cX9_treeOf 4 = .ok (.getfield 124, 3) := by decide +kernel
theorem dX9_treeOf_7 : decode cX9_treeOf 7 = .ok (.iload_n 1, 1) := by decide +kernel
theorem dX9_treeOf_8 : decode cX9_treeOf 8 = .ok (.if_icmp .eq 15, 3) := by decide +kernel
theorem dX9_treeOf_11 : decode cX9_treeOf 11 = .ok (.aload_n 0, 1) := by decide +kernel
theorem dX9_treeOf_12 : decode cX9_treeOf 12 = .ok (.getfield 61, 3) := by decide +kernel
theorem dX9_treeOf_15 : decode cX9_treeOf 15 = .ok (.aload_n 0, 1) := by decide +kernel
theorem dX9_treeOf_16 : decode cX9_treeOf 16 = .ok (.getfield 54, 3) := by decide +kernel
theorem dX9_treeOf_19 : decode cX9_treeOf 19 = .ok (.iload_n 1, 1) := by decide +kernel
theorem dX9_treeOf_20 : decode cX9_treeOf 20 = .ok (.invokevirtual 195, 3) := by decide +kernel
theorem dX9_treeOf_23 : decode cX9_treeOf 23 = .ok (.aload_n 0, 1) := by decide +kernel
theorem dX9_treeOf_24 : decode cX9_treeOf 24 = .ok (.getfield 61, 3) := by decide +kernel
theorem dX9_treeOf_27 : decode cX9_treeOf 27 = .ok (.areturn, 1) := by decide +kernel
theorem dX9_chordSet_0 : decode cX9_chordSet 0 = .ok (.iload_n 0, 1) := by decide +kernel
theorem dX9_chordSet_1 : decode cX9_chordSet 1 = .ok (.ifCond .lt 19, 3) := by decide +kernel
theorem dX9_chordSet_4 : decode cX9_chordSet 4 = .ok (.iload_n 0, 1) := by decide +kernel
theorem dX9_chordSet_5 : decode cX9_chordSet 5 = .ok (.bipush 12, 2) := by decide +kernel
theorem dX9_chordSet_7 : decode cX9_chordSet 7 = .ok (.if_icmp .ge 13, 3) := by decide +kernel
theorem dX9_chordSet_10 : decode cX9_chordSet 10 = .ok (.iload_n 1, 1) := by decide +kernel
theorem dX9_chordSet_11 : decode cX9_chordSet 11 = .ok (.ifCond .lt 9, 3) := by decide +kernel
theorem dX9_chordSet_14 : decode cX9_chordSet 14 = .ok (.iload_n 1, 1) := by decide +kernel
theorem dX9_chordSet_15 : decode cX9_chordSet 15 = .ok (.bipush 9, 2) := by decide +kernel
theorem dX9_chordSet_17 : decode cX9_chordSet 17 = .ok (.if_icmp .lt 5, 3) := by decide +kernel
theorem dX9_chordSet_20 : decode cX9_chordSet 20 = .ok (.iconst 0, 1) := by decide +kernel
theorem dX9_chordSet_21 : decode cX9_chordSet 21 = .ok (.ireturn, 1) := by decide +kernel
theorem dX9_chordSet_22 : decode cX9_chordSet 22 = .ok (.getstatic 199, 3) := by decide +kernel
theorem dX9_chordSet_25 : decode cX9_chordSet 25 = .ok (.iload_n 1, 1) := by decide +kernel
theorem dX9_chordSet_26 : decode cX9_chordSet 26 = .ok (.iaload, 1) := by decide +kernel
theorem dX9_chordSet_27 : decode cX9_chordSet 27 = .ok (.iload_n 0, 1) := by decide +kernel
theorem dX9_chordSet_28 : decode cX9_chordSet 28 = .ok (.ishl, 1) := by decide +kernel
theorem dX9_chordSet_29 : decode cX9_chordSet 29 = .ok (.istore_n 2, 1) := by decide +kernel
theorem dX9_chordSet_30 : decode cX9_chordSet 30 = .ok (.iload_n 2, 1) := by decide +kernel
theorem dX9_chordSet_31 : decode cX9_chordSet 31 = .ok (.iload_n 2, 1) := by decide +kernel
theorem dX9_chordSet_32 : decode cX9_chordSet 32 = .ok (.bipush 12, 2) := by decide +kernel
theorem dX9_chordSet_34 : decode cX9_chordSet 34 = .ok (.iushr, 1) := by decide +kernel
theorem dX9_chordSet_35 : decode cX9_chordSet 35 = .ok (.ior, 1) := by decide +kernel
theorem dX9_chordSet_36 : decode cX9_chordSet 36 = .ok (.sipush 4095, 3) := by decide +kernel
theorem dX9_chordSet_39 : decode cX9_chordSet 39 = .ok (.iand, 1) := by decide +kernel
theorem dX9_chordSet_40 : decode cX9_chordSet 40 = .ok (.ireturn, 1) := by decide +kernel
theorem dX9_ending_0 : decode cX9_ending 0 = .ok (.iload_n 1, 1) := by decide +kernel
theorem dX9_ending_1 : decode cX9_ending 1 = .ok (.iconst 1, 1) := by decide +kernel
theorem dX9_ending_2 : decode cX9_ending 2 = .ok (.if_icmp .ne 10, 3) := by decide +kernel
theorem dX9_ending_5 : decode cX9_ending 5 = .ok (.iload_n 0, 1) := by decide +kernel
theorem dX9_ending_6 : decode cX9_ending 6 = .ok (.iconst 5, 1) := by decide +kernel
theorem dX9_ending_7 : decode cX9_ending 7 = .ok (.if_icmp .ne 5, 3) := by decide +kernel
theorem dX9_ending_10 : decode cX9_ending 10 = .ok (.iconst 1, 1) := by decide +kernel
theorem dX9_ending_11 : decode cX9_ending 11 = .ok (.ireturn, 1) := by decide +kernel
theorem dX9_ending_12 : decode cX9_ending 12 = .ok (.iload_n 1, 1) := by decide +kernel
theorem dX9_ending_13 : decode cX9_ending 13 = .ok (.iconst 1, 1) := by decide +kernel
theorem dX9_ending_14 : decode cX9_ending 14 = .ok (.if_icmp .ne 10, 3) := by decide +kernel
theorem dX9_ending_17 : decode cX9_ending 17 = .ok (.iload_n 0, 1) := by decide +kernel
theorem dX9_ending_18 : decode cX9_ending 18 = .ok (.iconst 4, 1) := by decide +kernel
theorem dX9_ending_19 : decode cX9_ending 19 = .ok (.if_icmp .ne 5, 3) := by decide +kernel
theorem dX9_ending_22 : decode cX9_ending 22 = .ok (.iconst 2, 1) := by decide +kernel
theorem dX9_ending_23 : decode cX9_ending 23 = .ok (.ireturn, 1) := by decide +kernel
theorem dX9_ending_24 : decode cX9_ending 24 = .ok (.iload_n 1, 1) := by decide +kernel
theorem dX9_ending_25 : decode cX9_ending 25 = .ok (.iconst 5, 1) := by decide +kernel
theorem dX9_ending_26 : decode cX9_ending 26 = .ok (.if_icmp .ne 5, 3) := by decide +kernel
theorem dX9_ending_29 : decode cX9_ending 29 = .ok (.iconst 3, 1) := by decide +kernel
theorem dX9_ending_30 : decode cX9_ending 30 = .ok (.ireturn, 1) := by decide +kernel
theorem dX9_ending_31 : decode cX9_ending 31 = .ok (.iload_n 1, 1) := by decide +kernel
theorem dX9_ending_32 : decode cX9_ending 32 = .ok (.bipush 6, 2) := by decide +kernel
theorem dX9_ending_34 : decode cX9_ending 34 = .ok (.if_icmp .ne 12, 3) := by decide +kernel
theorem dX9_ending_37 : decode cX9_ending 37 = .ok (.iload_n 0, 1) := by decide +kernel
theorem dX9_ending_38 : decode cX9_ending 38 = .ok (.iconst 5, 1) := by decide +kernel
theorem dX9_ending_39 : decode cX9_ending 39 = .ok (.if_icmp .ne 7, 3) := by decide +kernel
theorem dX9_ending_42 : decode cX9_ending 42 = .ok (.iconst 4, 1) := by decide +kernel
theorem dX9_ending_43 : decode cX9_ending 43 = .ok (.goto 4, 3) := by decide +kernel
theorem dX9_ending_46 : decode cX9_ending 46 = .ok (.iconst 0, 1) := by decide +kernel
theorem dX9_ending_47 : decode cX9_ending 47 = .ok (.ireturn, 1) := by decide +kernel
theorem dX9_strangerNote_0 : decode cX9_strangerNote 0 = .ok (.iload_n 2, 1) := by decide +kernel
theorem dX9_strangerNote_1 : decode cX9_strangerNote 1 = .ok (.iconst (-1), 1) := by decide +kernel
theorem dX9_strangerNote_2 : decode cX9_strangerNote 2 = .ok (.if_icmp .ne 6, 3) := by decide +kernel
theorem dX9_strangerNote_5 : decode cX9_strangerNote 5 = .ok (.bipush 7, 2) := by decide +kernel
theorem dX9_strangerNote_7 : decode cX9_strangerNote 7 = .ok (.ireturn, 1) := by decide +kernel
theorem dX9_strangerNote_8 : decode cX9_strangerNote 8 = .ok (.iload_n 2, 1) := by decide +kernel
theorem dX9_strangerNote_9 : decode cX9_strangerNote 9 = .ok (.iload_n 1, 1) := by decide +kernel
theorem dX9_strangerNote_10 : decode cX9_strangerNote 10 = .ok (.isub, 1) := by decide +kernel
theorem dX9_strangerNote_11 : decode cX9_strangerNote 11 = .ok (.istore_n 3, 1) := by decide +kernel
theorem dX9_strangerNote_12 : decode cX9_strangerNote 12 = .ok (.iload_n 0, 1) := by decide +kernel
theorem dX9_strangerNote_13 : decode cX9_strangerNote 13 = .ok (.iconst (-1), 1) := by decide +kernel
theorem dX9_strangerNote_14 : decode cX9_strangerNote 14 = .ok (.if_icmp .ne 14, 3) := by decide +kernel
theorem dX9_strangerNote_17 : decode cX9_strangerNote 17 = .ok (.iload_n 3, 1) := by decide +kernel
theorem dX9_strangerNote_18 : decode cX9_strangerNote 18 = .ok (.ifCond .ne 7, 3) := by decide +kernel
theorem dX9_strangerNote_21 : decode cX9_strangerNote 21 = .ok (.iconst 4, 1) := by decide +kernel
theorem dX9_strangerNote_22 : decode cX9_strangerNote 22 = .ok (.goto 5, 3) := by decide +kernel
theorem dX9_strangerNote_25 : decode cX9_strangerNote 25 = .ok (.bipush 7, 2) := by decide +kernel
theorem dX9_strangerNote_27 : decode cX9_strangerNote 27 = .ok (.ireturn, 1) := by decide +kernel
theorem dX9_strangerNote_28 : decode cX9_strangerNote 28 = .ok (.iload_n 1, 1) := by decide +kernel
theorem dX9_strangerNote_29 : decode cX9_strangerNote 29 = .ok (.iload_n 0, 1) := by decide +kernel
theorem dX9_strangerNote_30 : decode cX9_strangerNote 30 = .ok (.isub, 1) := by decide +kernel
theorem dX9_strangerNote_31 : decode cX9_strangerNote 31 = .ok (.istore 4, 2) := by decide +kernel
theorem dX9_strangerNote_33 : decode cX9_strangerNote 33 = .ok (.iload 4, 2) := by decide +kernel
theorem dX9_strangerNote_35 : decode cX9_strangerNote 35 = .ok (.ifCond .le 7, 3) := by decide +kernel
theorem dX9_strangerNote_38 : decode cX9_strangerNote 38 = .ok (.iload_n 3, 1) := by decide +kernel
theorem dX9_strangerNote_39 : decode cX9_strangerNote 39 = .ok (.ifCond .lt 12, 3) := by decide +kernel
theorem dX9_strangerNote_42 : decode cX9_strangerNote 42 = .ok (.iload 4, 2) := by decide +kernel
theorem dX9_strangerNote_44 : decode cX9_strangerNote 44 = .ok (.ifCond .ge 11, 3) := by decide +kernel
theorem dX9_strangerNote_47 : decode cX9_strangerNote 47 = .ok (.iload_n 3, 1) := by decide +kernel
theorem dX9_strangerNote_48 : decode cX9_strangerNote 48 = .ok (.ifCond .le 7, 3) := by decide +kernel
theorem dX9_strangerNote_51 : decode cX9_strangerNote 51 = .ok (.iconst 1, 1) := by decide +kernel
theorem dX9_strangerNote_52 : decode cX9_strangerNote 52 = .ok (.goto 4, 3) := by decide +kernel
theorem dX9_strangerNote_55 : decode cX9_strangerNote 55 = .ok (.iconst 0, 1) := by decide +kernel
theorem dX9_strangerNote_56 : decode cX9_strangerNote 56 = .ok (.istore 5, 2) := by decide +kernel
theorem dX9_strangerNote_58 : decode cX9_strangerNote 58 = .ok (.iload 4, 2) := by decide +kernel
theorem dX9_strangerNote_60 : decode cX9_strangerNote 60 = .ok (.invokestatic 202, 3) := by decide +kernel
theorem dX9_strangerNote_63 : decode cX9_strangerNote 63 = .ok (.ifCond .eq 17, 3) := by decide +kernel
theorem dX9_strangerNote_66 : decode cX9_strangerNote 66 = .ok (.iload_n 3, 1) := by decide +kernel
theorem dX9_strangerNote_67 : decode cX9_strangerNote 67 = .ok (.invokestatic 202, 3) := by decide +kernel
theorem dX9_strangerNote_70 : decode cX9_strangerNote 70 = .ok (.ifCond .eq 10, 3) := by decide +kernel
theorem dX9_strangerNote_73 : decode cX9_strangerNote 73 = .ok (.iload 5, 2) := by decide +kernel
theorem dX9_strangerNote_75 : decode cX9_strangerNote 75 = .ok (.ifCond .ne 5, 3) := by decide +kernel
theorem dX9_strangerNote_78 : decode cX9_strangerNote 78 = .ok (.iconst 1, 1) := by decide +kernel
theorem dX9_strangerNote_79 : decode cX9_strangerNote 79 = .ok (.ireturn, 1) := by decide +kernel
theorem dX9_strangerNote_80 : decode cX9_strangerNote 80 = .ok (.iload 4, 2) := by decide +kernel
theorem dX9_strangerNote_82 : decode cX9_strangerNote 82 = .ok (.invokestatic 202, 3) := by decide +kernel
theorem dX9_strangerNote_85 : decode cX9_strangerNote 85 = .ok (.ifCond .eq 10, 3) := by decide +kernel
theorem dX9_strangerNote_88 : decode cX9_strangerNote 88 = .ok (.iload_n 2, 1) := by decide +kernel
theorem dX9_strangerNote_89 : decode cX9_strangerNote 89 = .ok (.iload_n 0, 1) := by decide +kernel
theorem dX9_strangerNote_90 : decode cX9_strangerNote 90 = .ok (.if_icmp .ne 5, 3) := by decide +kernel
theorem dX9_strangerNote_93 : decode cX9_strangerNote 93 = .ok (.iconst 2, 1) := by decide +kernel
theorem dX9_strangerNote_94 : decode cX9_strangerNote 94 = .ok (.ireturn, 1) := by decide +kernel
theorem dX9_strangerNote_95 : decode cX9_strangerNote 95 = .ok (.iload 4, 2) := by decide +kernel
theorem dX9_strangerNote_97 : decode cX9_strangerNote 97 = .ok (.ifCond .ne 16, 3) := by decide +kernel
theorem dX9_strangerNote_100 : decode cX9_strangerNote 100 = .ok (.iload_n 3, 1) := by decide +kernel
theorem dX9_strangerNote_101 : decode cX9_strangerNote 101 = .ok (.invokestatic 202, 3) := by decide +kernel
theorem dX9_strangerNote_104 : decode cX9_strangerNote 104 = .ok (.ifCond .eq 9, 3) := by decide +kernel
theorem dX9_strangerNote_107 : decode cX9_strangerNote 107 = .ok (.iload_n 3, 1) := by decide +kernel
theorem dX9_strangerNote_108 : decode cX9_strangerNote 108 = .ok (.ifCond .ge 5, 3) := by decide +kernel
theorem dX9_strangerNote_111 : decode cX9_strangerNote 111 = .ok (.iconst 3, 1) := by decide +kernel
theorem dX9_strangerNote_112 : decode cX9_strangerNote 112 = .ok (.ireturn, 1) := by decide +kernel
theorem dX9_strangerNote_113 : decode cX9_strangerNote 113 = .ok (.iload_n 3, 1) := by decide +kernel
theorem dX9_strangerNote_114 : decode cX9_strangerNote 114 = .ok (.ifCond .ne 5, 3) := by decide +kernel
theorem dX9_strangerNote_117 : decode cX9_strangerNote 117 = .ok (.iconst 4, 1) := by decide +kernel
theorem dX9_strangerNote_118 : decode cX9_strangerNote 118 = .ok (.ireturn, 1) := by decide +kernel
theorem dX9_strangerNote_119 : decode cX9_strangerNote 119 = .ok (.iload 4, 2) := by decide +kernel
theorem dX9_strangerNote_121 : decode cX9_strangerNote 121 = .ok (.invokestatic 205, 3) := by decide +kernel
theorem dX9_strangerNote_124 : decode cX9_strangerNote 124 = .ok (.ifCond .eq 17, 3) := by decide +kernel
theorem dX9_strangerNote_127 : decode cX9_strangerNote 127 = .ok (.iload_n 3, 1) := by decide +kernel
theorem dX9_strangerNote_128 : decode cX9_strangerNote 128 = .ok (.invokestatic 202, 3) := by decide +kernel
theorem dX9_strangerNote_131 : decode cX9_strangerNote 131 = .ok (.ifCond .eq 10, 3) := by decide +kernel
theorem dX9_strangerNote_134 : decode cX9_strangerNote 134 = .ok (.iload 5, 2) := by decide +kernel
theorem dX9_strangerNote_136 : decode cX9_strangerNote 136 = .ok (.ifCond .eq 5, 3) := by decide +kernel
theorem dX9_strangerNote_139 : decode cX9_strangerNote 139 = .ok (.iconst 5, 1) := by decide +kernel
theorem dX9_strangerNote_140 : decode cX9_strangerNote 140 = .ok (.ireturn, 1) := by decide +kernel
theorem dX9_strangerNote_141 : decode cX9_strangerNote 141 = .ok (.iload 4, 2) := by decide +kernel
theorem dX9_strangerNote_143 : decode cX9_strangerNote 143 = .ok (.invokestatic 202, 3) := by decide +kernel
theorem dX9_strangerNote_146 : decode cX9_strangerNote 146 = .ok (.ifCond .eq 20, 3) := by decide +kernel
theorem dX9_strangerNote_149 : decode cX9_strangerNote 149 = .ok (.iload_n 3, 1) := by decide +kernel
theorem dX9_strangerNote_150 : decode cX9_strangerNote 150 = .ok (.invokestatic 205, 3) := by decide +kernel
theorem dX9_strangerNote_153 : decode cX9_strangerNote 153 = .ok (.ifCond .eq 13, 3) := by decide +kernel
theorem dX9_strangerNote_156 : decode cX9_strangerNote 156 = .ok (.iload 5, 2) := by decide +kernel
theorem dX9_strangerNote_158 : decode cX9_strangerNote 158 = .ok (.ifCond .eq 8, 3) := by decide +kernel
theorem dX9_strangerNote_161 : decode cX9_strangerNote 161 = .ok (.bipush 6, 2) := by decide +kernel
theorem dX9_strangerNote_163 : decode cX9_strangerNote 163 = .ok (.goto 5, 3) := by decide +kernel
theorem dX9_strangerNote_166 : decode cX9_strangerNote 166 = .ok (.bipush 7, 2) := by decide +kernel
theorem dX9_strangerNote_168 : decode cX9_strangerNote 168 = .ok (.ireturn, 1) := by decide +kernel
theorem dX9_isStep_0 : decode cX9_isStep 0 = .ok (.iload_n 0, 1) := by decide +kernel
theorem dX9_isStep_1 : decode cX9_isStep 1 = .ok (.ifCond .eq 14, 3) := by decide +kernel
theorem dX9_isStep_4 : decode cX9_isStep 4 = .ok (.iload_n 0, 1) := by decide +kernel
theorem dX9_isStep_5 : decode cX9_isStep 5 = .ok (.invokestatic 205, 3) := by decide +kernel
theorem dX9_isStep_8 : decode cX9_isStep 8 = .ok (.ifCond .ne 7, 3) := by decide +kernel
theorem dX9_isStep_11 : decode cX9_isStep 11 = .ok (.iconst 1, 1) := by decide +kernel
theorem dX9_isStep_12 : decode cX9_isStep 12 = .ok (.goto 4, 3) := by decide +kernel
theorem dX9_isStep_15 : decode cX9_isStep 15 = .ok (.iconst 0, 1) := by decide +kernel
theorem dX9_isStep_16 : decode cX9_isStep 16 = .ok (.ireturn, 1) := by decide +kernel
theorem dX9_isLeap_0 : decode cX9_isLeap 0 = .ok (.iload_n 0, 1) := by decide +kernel
theorem dX9_isLeap_1 : decode cX9_isLeap 1 = .ok (.iconst 2, 1) := by decide +kernel
theorem dX9_isLeap_2 : decode cX9_isLeap 2 = .ok (.if_icmp .gt 9, 3) := by decide +kernel
theorem dX9_isLeap_5 : decode cX9_isLeap 5 = .ok (.iload_n 0, 1) := by decide +kernel
theorem dX9_isLeap_6 : decode cX9_isLeap 6 = .ok (.bipush (-2), 2) := by decide +kernel
theorem dX9_isLeap_8 : decode cX9_isLeap 8 = .ok (.if_icmp .ge 7, 3) := by decide +kernel
theorem dX9_isLeap_11 : decode cX9_isLeap 11 = .ok (.iconst 1, 1) := by decide +kernel
theorem dX9_isLeap_12 : decode cX9_isLeap 12 = .ok (.goto 4, 3) := by decide +kernel
theorem dX9_isLeap_15 : decode cX9_isLeap 15 = .ok (.iconst 0, 1) := by decide +kernel
theorem dX9_isLeap_16 : decode cX9_isLeap 16 = .ok (.ireturn, 1) := by decide +kernel
theorem dX10_init_0 : decode cX10_init 0 = .ok (.aload_n 0, 1) := by decide +kernel
theorem dX10_init_1 : decode cX10_init 1 = .ok (.invokespecial 1, 3) := by decide +kernel
theorem dX10_init_4 : decode cX10_init 4 = .ok (.aload_n 0, 1) := by decide +kernel
theorem dX10_init_5 : decode cX10_init 5 = .ok (.iconst 4, 1) := by decide +kernel
theorem dX10_init_6 : decode cX10_init 6 = .ok (.newarray .int, 2) := by decide +kernel
theorem dX10_init_8 : decode cX10_init 8 = .ok (.putfield 7, 3) := by decide +kernel
theorem dX10_init_11 : decode cX10_init 11 = .ok (.aload_n 0, 1) := by decide +kernel
theorem dX10_init_12 : decode cX10_init 12 = .ok (.sipush 800, 3) := by decide +kernel
theorem dX10_init_15 : decode cX10_init 15 = .ok (.newarray .int, 2) := by decide +kernel
theorem dX10_init_17 : decode cX10_init 17 = .ok (.putfield 13, 3) := by decide +kernel
theorem dX10_init_20 : decode cX10_init 20 = .ok (.aload_n 0, 1) := by decide +kernel
theorem dX10_init_21 : decode cX10_init 21 = .ok (.bipush 24, 2) := by decide +kernel
theorem dX10_init_23 : decode cX10_init 23 = .ok (.newarray .int, 2) := by decide +kernel
theorem dX10_init_25 : decode cX10_init 25 = .ok (.putfield 16, 3) := by decide +kernel
theorem dX10_init_28 : decode cX10_init 28 = .ok (.aload_n 0, 1) := by decide +kernel
theorem dX10_init_29 : decode cX10_init 29 = .ok (.bipush 24, 2) := by decide +kernel
theorem dX10_init_31 : decode cX10_init 31 = .ok (.newarray .int, 2) := by decide +kernel
theorem dX10_init_33 : decode cX10_init 33 = .ok (.putfield 19, 3) := by decide +kernel
theorem dX10_init_36 : decode cX10_init 36 = .ok (.aload_n 0, 1) := by decide +kernel
theorem dX10_init_37 : decode cX10_init 37 = .ok (.bipush 24, 2) := by decide +kernel
theorem dX10_init_39 : decode cX10_init 39 = .ok (.newarray .int, 2) := by decide +kernel
theorem dX10_init_41 : decode cX10_init 41 = .ok (.putfield 22, 3) := by decide +kernel
theorem dX10_init_44 : decode cX10_init 44 = .ok (.aload_n 0, 1) := by decide +kernel
theorem dX10_init_45 : decode cX10_init 45 = .ok (.bipush 60, 2) := by decide +kernel
theorem dX10_init_47 : decode cX10_init 47 = .ok (.newarray .int, 2) := by decide +kernel
theorem dX10_init_49 : decode cX10_init 49 = .ok (.putfield 25, 3) := by decide +kernel
theorem dX10_init_52 : decode cX10_init 52 = .ok (.aload_n 0, 1) := by decide +kernel
theorem dX10_init_53 : decode cX10_init 53 = .ok (.bipush 60, 2) := by decide +kernel
theorem dX10_init_55 : decode cX10_init 55 = .ok (.newarray .int, 2) := by decide +kernel
theorem dX10_init_57 : decode cX10_init 57 = .ok (.putfield 28, 3) := by decide +kernel
theorem dX10_init_60 : decode cX10_init 60 = .ok (.aload_n 0, 1) := by decide +kernel
theorem dX10_init_61 : decode cX10_init 61 = .ok (.bipush 60, 2) := by decide +kernel
theorem dX10_init_63 : decode cX10_init 63 = .ok (.newarray .int, 2) := by decide +kernel
theorem dX10_init_65 : decode cX10_init 65 = .ok (.putfield 31, 3) := by decide +kernel
theorem dX10_init_68 : decode cX10_init 68 = .ok (.aload_n 0, 1) := by decide +kernel
theorem dX10_init_69 : decode cX10_init 69 = .ok (.bipush 60, 2) := by decide +kernel
theorem dX10_init_71 : decode cX10_init 71 = .ok (.newarray .int, 2) := by decide +kernel
theorem dX10_init_73 : decode cX10_init 73 = .ok (.putfield 34, 3) := by decide +kernel
theorem dX10_init_76 : decode cX10_init 76 = .ok (.aload_n 0, 1) := by decide +kernel
theorem dX10_init_77 : decode cX10_init 77 = .ok (.bipush 61, 2) := by decide +kernel
theorem dX10_init_79 : decode cX10_init 79 = .ok (.newarray .int, 2) := by decide +kernel
theorem dX10_init_81 : decode cX10_init 81 = .ok (.putfield 37, 3) := by decide +kernel
theorem dX10_init_84 : decode cX10_init 84 = .ok (.aload_n 0, 1) := by decide +kernel
theorem dX10_init_85 : decode cX10_init 85 = .ok (.bipush 61, 2) := by decide +kernel
theorem dX10_init_87 : decode cX10_init 87 = .ok (.newarray .int, 2) := by decide +kernel
theorem dX10_init_89 : decode cX10_init 89 = .ok (.putfield 40, 3) := by decide +kernel
theorem dX10_init_92 : decode cX10_init 92 = .ok (.aload_n 0, 1) := by decide +kernel
theorem dX10_init_93 : decode cX10_init 93 = .ok (.bipush 61, 2) := by decide +kernel
theorem dX10_init_95 : decode cX10_init 95 = .ok (.newarray .int, 2) := by decide +kernel
theorem dX10_init_97 : decode cX10_init 97 = .ok (.putfield 43, 3) := by decide +kernel
theorem dX10_init_100 : decode cX10_init 100 = .ok (.aload_n 0, 1) := by decide +kernel
theorem dX10_init_101 : decode cX10_init 101 = .ok (.bipush 61, 2) := by decide +kernel
theorem dX10_init_103 : decode cX10_init 103 = .ok (.newarray .int, 2) := by decide +kernel
theorem dX10_init_105 : decode cX10_init 105 = .ok (.putfield 46, 3) := by decide +kernel
theorem dX10_init_108 : decode cX10_init 108 = .ok (.aload_n 0, 1) := by decide +kernel
theorem dX10_init_109 : decode cX10_init 109 = .ok (.bipush 61, 2) := by decide +kernel
theorem dX10_init_111 : decode cX10_init 111 = .ok (.newarray .int, 2) := by decide +kernel
theorem dX10_init_113 : decode cX10_init 113 = .ok (.putfield 49, 3) := by decide +kernel
theorem dX10_init_116 : decode cX10_init 116 = .ok (.aload_n 0, 1) := by decide +kernel
theorem dX10_init_117 : decode cX10_init 117 = .ok (.sipush 676, 3) := by decide +kernel
theorem dX10_init_120 : decode cX10_init 120 = .ok (.newarray .boolean, 2) := by decide +kernel
theorem dX10_init_122 : decode cX10_init 122 = .ok (.putfield 52, 3) := by decide +kernel
theorem dX10_init_125 : decode cX10_init 125 = .ok (.aload_n 0, 1) := by decide +kernel
theorem dX10_init_126 : decode cX10_init 126 = .ok (.bipush 60, 2) := by decide +kernel
theorem dX10_init_128 : decode cX10_init 128 = .ok (.newarray .int, 2) := by decide +kernel
theorem dX10_init_130 : decode cX10_init 130 = .ok (.putfield 56, 3) := by decide +kernel
theorem dX10_init_133 : decode cX10_init 133 = .ok (.aload_n 0, 1) := by decide +kernel
theorem dX10_init_134 : decode cX10_init 134 = .ok (.bipush 60, 2) := by decide +kernel
theorem dX10_init_136 : decode cX10_init 136 = .ok (.newarray .int, 2) := by decide +kernel
theorem dX10_init_138 : decode cX10_init 138 = .ok (.putfield 59, 3) := by decide +kernel
theorem dX10_init_141 : decode cX10_init 141 = .ok (.aload_n 0, 1) := by decide +kernel
theorem dX10_init_142 : decode cX10_init 142 = .ok (.bipush 60, 2) := by decide +kernel
theorem dX10_init_144 : decode cX10_init 144 = .ok (.newarray .int, 2) := by decide +kernel
theorem dX10_init_146 : decode cX10_init 146 = .ok (.putfield 62, 3) := by decide +kernel
theorem dX10_init_149 : decode cX10_init 149 = .ok (.aload_n 0, 1) := by decide +kernel
theorem dX10_init_150 : decode cX10_init 150 = .ok (.bipush 60, 2) := by decide +kernel
theorem dX10_init_152 : decode cX10_init 152 = .ok (.newarray .int, 2) := by decide +kernel
theorem dX10_init_154 : decode cX10_init 154 = .ok (.putfield 65, 3) := by decide +kernel
theorem dX10_init_157 : decode cX10_init 157 = .ok (.aload_n 0, 1) := by decide +kernel
theorem dX10_init_158 : decode cX10_init 158 = .ok (.bipush 24, 2) := by decide +kernel
theorem dX10_init_160 : decode cX10_init 160 = .ok (.newarray .int, 2) := by decide +kernel
theorem dX10_init_162 : decode cX10_init 162 = .ok (.putfield 68, 3) := by decide +kernel
theorem dX10_init_165 : decode cX10_init 165 = .ok (.aload_n 0, 1) := by decide +kernel
theorem dX10_init_166 : decode cX10_init 166 = .ok (.sipush 1920, 3) := by decide +kernel
theorem dX10_init_169 : decode cX10_init 169 = .ok (.newarray .int, 2) := by decide +kernel
theorem dX10_init_171 : decode cX10_init 171 = .ok (.putfield 71, 3) := by decide +kernel
theorem dX10_init_174 : decode cX10_init 174 = .ok (.aload_n 0, 1) := by decide +kernel
theorem dX10_init_175 : decode cX10_init 175 = .ok (.sipush 1920, 3) := by decide +kernel
theorem dX10_init_178 : decode cX10_init 178 = .ok (.newarray .int, 2) := by decide +kernel
theorem dX10_init_180 : decode cX10_init 180 = .ok (.putfield 74, 3) := by decide +kernel
theorem dX10_init_183 : decode cX10_init 183 = .ok (.aload_n 0, 1) := by decide +kernel
theorem dX10_init_184 : decode cX10_init 184 = .ok (.sipush 7800, 3) := by decide +kernel
theorem dX10_init_187 : decode cX10_init 187 = .ok (.newarray .int, 2) := by decide +kernel
theorem dX10_init_189 : decode cX10_init 189 = .ok (.putfield 77, 3) := by decide +kernel
theorem dX10_init_192 : decode cX10_init 192 = .ok (.aload_n 0, 1) := by decide +kernel
theorem dX10_init_193 : decode cX10_init 193 = .ok (.sipush 7800, 3) := by decide +kernel
theorem dX10_init_196 : decode cX10_init 196 = .ok (.newarray .long, 2) := by decide +kernel
theorem dX10_init_198 : decode cX10_init 198 = .ok (.putfield 80, 3) := by decide +kernel
theorem dX10_init_201 : decode cX10_init 201 = .ok (.aload_n 0, 1) := by decide +kernel
theorem dX10_init_202 : decode cX10_init 202 = .ok (.ldc 84, 2) := by decide +kernel
theorem dX10_init_204 : decode cX10_init 204 = .ok (.newarray .int, 2) := by decide +kernel
theorem dX10_init_206 : decode cX10_init 206 = .ok (.putfield 85, 3) := by decide +kernel
theorem dX10_init_209 : decode cX10_init 209 = .ok (.aload_n 0, 1) := by decide +kernel
theorem dX10_init_210 : decode cX10_init 210 = .ok (.ldc 84, 2) := by decide +kernel
theorem dX10_init_212 : decode cX10_init 212 = .ok (.newarray .int, 2) := by decide +kernel
theorem dX10_init_214 : decode cX10_init 214 = .ok (.putfield 88, 3) := by decide +kernel
theorem dX10_init_217 : decode cX10_init 217 = .ok (.aload_n 0, 1) := by decide +kernel
theorem dX10_init_218 : decode cX10_init 218 = .ok (.bipush 26, 2) := by decide +kernel
theorem dX10_init_220 : decode cX10_init 220 = .ok (.newarray .int, 2) := by decide +kernel
theorem dX10_init_222 : decode cX10_init 222 = .ok (.putfield 91, 3) := by decide +kernel
theorem dX10_init_225 : decode cX10_init 225 = .ok (.aload_n 0, 1) := by decide +kernel
theorem dX10_init_226 : decode cX10_init 226 = .ok (.bipush 64, 2) := by decide +kernel
theorem dX10_init_228 : decode cX10_init 228 = .ok (.newarray .int, 2) := by decide +kernel
theorem dX10_init_230 : decode cX10_init 230 = .ok (.putfield 94, 3) := by decide +kernel
theorem dX10_init_233 : decode cX10_init 233 = .ok (.aload_n 0, 1) := by decide +kernel
theorem dX10_init_234 : decode cX10_init 234 = .ok (.bipush 64, 2) := by decide +kernel
theorem dX10_init_236 : decode cX10_init 236 = .ok (.newarray .int, 2) := by decide +kernel
theorem dX10_init_238 : decode cX10_init 238 = .ok (.putfield 97, 3) := by decide +kernel
theorem dX10_init_241 : decode cX10_init 241 = .ok (.aload_n 0, 1) := by decide +kernel
theorem dX10_init_242 : decode cX10_init 242 = .ok (.bipush 64, 2) := by decide +kernel
theorem dX10_init_244 : decode cX10_init 244 = .ok (.newarray .int, 2) := by decide +kernel
theorem dX10_init_246 : decode cX10_init 246 = .ok (.putfield 100, 3) := by decide +kernel
theorem dX10_init_249 : decode cX10_init 249 = .ok (.aload_n 0, 1) := by decide +kernel
theorem dX10_init_250 : decode cX10_init 250 = .ok (.bipush 64, 2) := by decide +kernel
theorem dX10_init_252 : decode cX10_init 252 = .ok (.newarray .int, 2) := by decide +kernel
theorem dX10_init_254 : decode cX10_init 254 = .ok (.putfield 103, 3) := by decide +kernel
theorem dX10_init_257 : decode cX10_init 257 = .ok (.aload_n 0, 1) := by decide +kernel
theorem dX10_init_258 : decode cX10_init 258 = .ok (.getfield 7, 3) := by decide +kernel
theorem dX10_init_261 : decode cX10_init 261 = .ok (.iconst 0, 1) := by decide +kernel
theorem dX10_init_262 : decode cX10_init 262 = .ok (.iconst 4, 1) := by decide +kernel
theorem dX10_init_263 : decode cX10_init 263 = .ok (.iastore, 1) := by decide +kernel
theorem dX10_init_264 : decode cX10_init 264 = .ok (.aload_n 0, 1) := by decide +kernel
theorem dX10_init_265 : decode cX10_init 265 = .ok (.getfield 7, 3) := by decide +kernel
theorem dX10_init_268 : decode cX10_init 268 = .ok (.iconst 1, 1) := by decide +kernel
theorem dX10_init_269 : decode cX10_init 269 = .ok (.iconst 3, 1) := by decide +kernel
theorem dX10_init_270 : decode cX10_init 270 = .ok (.iastore, 1) := by decide +kernel
theorem dX10_init_271 : decode cX10_init 271 = .ok (.aload_n 0, 1) := by decide +kernel
theorem dX10_init_272 : decode cX10_init 272 = .ok (.getfield 7, 3) := by decide +kernel
theorem dX10_init_275 : decode cX10_init 275 = .ok (.iconst 2, 1) := by decide +kernel
theorem dX10_init_276 : decode cX10_init 276 = .ok (.iconst 1, 1) := by decide +kernel
theorem dX10_init_277 : decode cX10_init 277 = .ok (.iastore, 1) := by decide +kernel
theorem dX10_init_278 : decode cX10_init 278 = .ok (.aload_n 0, 1) := by decide +kernel
theorem dX10_init_279 : decode cX10_init 279 = .ok (.getfield 7, 3) := by decide +kernel
theorem dX10_init_282 : decode cX10_init 282 = .ok (.iconst 3, 1) := by decide +kernel
theorem dX10_init_283 : decode cX10_init 283 = .ok (.iconst 5, 1) := by decide +kernel
theorem dX10_init_284 : decode cX10_init 284 = .ok (.iastore, 1) := by decide +kernel
theorem dX10_init_285 : decode cX10_init 285 = .ok (.return_, 1) := by decide +kernel
theorem dX10_thrown_0 : decode cX10_thrown 0 = .ok (.aload_n 0, 1) := by decide +kernel
theorem dX10_thrown_1 : decode cX10_thrown 1 = .ok (.getfield 106, 3) := by decide +kernel
theorem dX10_thrown_4 : decode cX10_thrown 4 = .ok (.ireturn, 1) := by decide +kernel
theorem dX10_key_0 : decode cX10_key 0 = .ok (.aload_n 0, 1) := by decide +kernel
theorem dX10_key_1 : decode cX10_key 1 = .ok (.iconst 0, 1) := by decide +kernel
theorem dX10_key_2 : decode cX10_key 2 = .ok (.putfield 106, 3) := by decide +kernel
theorem dX10_key_5 : decode cX10_key 5 = .ok (.iload_n 1, 1) := by decide +kernel
theorem dX10_key_6 : decode cX10_key 6 = .ok (.ifCond .lt 9, 3) := by decide +kernel
theorem dX10_key_9 : decode cX10_key 9 = .ok (.iload_n 1, 1) := by decide +kernel
theorem dX10_key_10 : decode cX10_key 10 = .ok (.bipush 11, 2) := by decide +kernel
theorem dX10_key_12 : decode cX10_key 12 = .ok (.if_icmp .le 5, 3) := by decide +kernel
theorem dX10_key_15 : decode cX10_key 15 = .ok (.iconst 0, 1) := by decide +kernel
theorem dX10_key_16 : decode cX10_key 16 = .ok (.ireturn, 1) := by decide +kernel
theorem dX10_key_17 : decode cX10_key 17 = .ok (.aload_n 0, 1) := by decide +kernel
theorem dX10_key_18 : decode cX10_key 18 = .ok (.iload_n 1, 1) := by decide +kernel
theorem dX10_key_19 : decode cX10_key 19 = .ok (.putfield 110, 3) := by decide +kernel
theorem dX10_key_22 : decode cX10_key 22 = .ok (.aload_n 0, 1) := by decide +kernel
theorem dX10_key_23 : decode cX10_key 23 = .ok (.iload_n 2, 1) := by decide +kernel
theorem dX10_key_24 : decode cX10_key 24 = .ok (.putfield 113, 3) := by decide +kernel
theorem dX10_key_27 : decode cX10_key 27 = .ok (.iconst 1, 1) := by decide +kernel
theorem dX10_key_28 : decode cX10_key 28 = .ok (.ireturn, 1) := by decide +kernel
theorem dX10_cost_0 : decode cX10_cost 0 = .ok (.aload_n 0, 1) := by decide +kernel
theorem dX10_cost_1 : decode cX10_cost 1 = .ok (.iconst 0, 1) := by decide +kernel
theorem dX10_cost_2 : decode cX10_cost 2 = .ok (.putfield 106, 3) := by decide +kernel
theorem dX10_cost_5 : decode cX10_cost 5 = .ok (.iload_n 1, 1) := by decide +kernel
theorem dX10_cost_6 : decode cX10_cost 6 = .ok (.ifCond .lt 19, 3) := by decide +kernel
theorem dX10_cost_9 : decode cX10_cost 9 = .ok (.iload_n 1, 1) := by decide +kernel
theorem dX10_cost_10 : decode cX10_cost 10 = .ok (.iconst 3, 1) := by decide +kernel
theorem dX10_cost_11 : decode cX10_cost 11 = .ok (.if_icmp .gt 14, 3) := by decide +kernel
theorem dX10_cost_14 : decode cX10_cost 14 = .ok (.iload_n 2, 1) := by decide +kernel
theorem dX10_cost_15 : decode cX10_cost 15 = .ok (.ifCond .lt 10, 3) := by decide +kernel
theorem dX10_cost_18 : decode cX10_cost 18 = .ok (.iload_n 2, 1) := by decide +kernel
theorem dX10_cost_19 : decode cX10_cost 19 = .ok (.sipush 1000, 3) := by decide +kernel
theorem dX10_cost_22 : decode cX10_cost 22 = .ok (.if_icmp .le 5, 3) := by decide +kernel
theorem dX10_cost_25 : decode cX10_cost 25 = .ok (.iconst 0, 1) := by decide +kernel
theorem dX10_cost_26 : decode cX10_cost 26 = .ok (.ireturn, 1) := by decide +kernel
theorem dX10_cost_27 : decode cX10_cost 27 = .ok (.aload_n 0, 1) := by decide +kernel
theorem dX10_cost_28 : decode cX10_cost 28 = .ok (.getfield 7, 3) := by decide +kernel
theorem dX10_cost_31 : decode cX10_cost 31 = .ok (.iload_n 1, 1) := by decide +kernel
theorem dX10_cost_32 : decode cX10_cost 32 = .ok (.iload_n 2, 1) := by decide +kernel
theorem dX10_cost_33 : decode cX10_cost 33 = .ok (.iastore, 1) := by decide +kernel
theorem dX10_cost_34 : decode cX10_cost 34 = .ok (.iconst 1, 1) := by decide +kernel
theorem dX10_cost_35 : decode cX10_cost 35 = .ok (.ireturn, 1) := by decide +kernel
theorem dX10_draft_0 : decode cX10_draft 0 = .ok (.aload_n 0, 1) := by decide +kernel
theorem dX10_draft_1 : decode cX10_draft 1 = .ok (.iconst 0, 1) := by decide +kernel
theorem dX10_draft_2 : decode cX10_draft 2 = .ok (.putfield 106, 3) := by decide +kernel
theorem dX10_draft_5 : decode cX10_draft 5 = .ok (.iload_n 1, 1) := by decide +kernel
theorem dX10_draft_6 : decode cX10_draft 6 = .ok (.iconst 1, 1) := by decide +kernel
theorem dX10_draft_7 : decode cX10_draft 7 = .ok (.if_icmp .lt 21, 3) := by decide +kernel
theorem dX10_draft_10 : decode cX10_draft 10 = .ok (.iload_n 1, 1) := by decide +kernel
theorem dX10_draft_11 : decode cX10_draft 11 = .ok (.bipush 8, 2) := by decide +kernel
theorem dX10_draft_13 : decode cX10_draft 13 = .ok (.if_icmp .gt 15, 3) := by decide +kernel
theorem dX10_draft_16 : decode cX10_draft 16 = .ok (.aload_n 0, 1) := by decide +kernel
theorem dX10_draft_17 : decode cX10_draft 17 = .ok (.getfield 117, 3) := by decide +kernel
theorem dX10_draft_20 : decode cX10_draft 20 = .ok (.iload_n 1, 1) := by decide +kernel
theorem dX10_draft_21 : decode cX10_draft 21 = .ok (.iadd, 1) := by decide +kernel
theorem dX10_draft_22 : decode cX10_draft 22 = .ok (.sipush 800, 3) := by decide +kernel
theorem dX10_draft_25 : decode cX10_draft 25 = .ok (.if_icmp .le 5, 3) := by decide +kernel
theorem dX10_draft_28 : decode cX10_draft 28 = .ok (.iconst (-1), 1) := by decide +kernel
theorem dX10_draft_29 : decode cX10_draft 29 = .ok (.ireturn, 1) := by decide +kernel
theorem dX10_draft_30 : decode cX10_draft 30 = .ok (.iconst 0, 1) := by decide +kernel
theorem dX10_draft_31 : decode cX10_draft 31 = .ok (.istore 4, 2) := by decide +kernel
theorem dX10_draft_33 : decode cX10_draft 33 = .ok (.iload 4, 2) := by decide +kernel
theorem dX10_draft_35 : decode cX10_draft 35 = .ok (.iload_n 1, 1) := by decide +kernel
theorem dX10_draft_36 : decode cX10_draft 36 = .ok (.if_icmp .ge 40, 3) := by decide +kernel
theorem dX10_draft_39 : decode cX10_draft 39 = .ok (.aload_n 0, 1) := by decide +kernel
theorem dX10_draft_40 : decode cX10_draft 40 = .ok (.getfield 13, 3) := by decide +kernel
theorem dX10_draft_43 : decode cX10_draft 43 = .ok (.aload_n 0, 1) := by decide +kernel
theorem dX10_draft_44 : decode cX10_draft 44 = .ok (.getfield 117, 3) := by decide +kernel
theorem dX10_draft_47 : decode cX10_draft 47 = .ok (.lload_n 2, 1) := by decide +kernel
theorem dX10_draft_48 : decode cX10_draft 48 = .ok (.bipush 8, 2) := by decide +kernel
theorem dX10_draft_50 : decode cX10_draft 50 = .ok (.iload 4, 2) := by decide +kernel
theorem dX10_draft_52 : decode cX10_draft 52 = .ok (.imul, 1) := by decide +kernel
theorem dX10_draft_53 : decode cX10_draft 53 = .ok (.lshr, 1) := by decide +kernel
theorem dX10_draft_54 : decode cX10_draft 54 = .ok (.ldc2_w 120, 3) := by decide +kernel
theorem dX10_draft_57 : decode cX10_draft 57 = .ok (.land, 1) := by decide +kernel
theorem dX10_draft_58 : decode cX10_draft 58 = .ok (.l2i, 1) := by decide +kernel
theorem dX10_draft_59 : decode cX10_draft 59 = .ok (.iastore, 1) := by decide +kernel
theorem dX10_draft_60 : decode cX10_draft 60 = .ok (.aload_n 0, 1) := by decide +kernel
theorem dX10_draft_61 : decode cX10_draft 61 = .ok (.dup, 1) := by decide +kernel
theorem dX10_draft_62 : decode cX10_draft 62 = .ok (.getfield 117, 3) := by decide +kernel
theorem dX10_draft_65 : decode cX10_draft 65 = .ok (.iconst 1, 1) := by decide +kernel
theorem dX10_draft_66 : decode cX10_draft 66 = .ok (.iadd, 1) := by decide +kernel
theorem dX10_draft_67 : decode cX10_draft 67 = .ok (.putfield 117, 3) := by decide +kernel
theorem dX10_draft_70 : decode cX10_draft 70 = .ok (.iinc 4 1, 3) := by decide +kernel
theorem dX10_draft_73 : decode cX10_draft 73 = .ok (.goto (-40), 3) := by decide +kernel
theorem dX10_draft_76 : decode cX10_draft 76 = .ok (.aload_n 0, 1) := by decide +kernel
theorem dX10_draft_77 : decode cX10_draft 77 = .ok (.getfield 117, 3) := by decide +kernel
theorem dX10_draft_80 : decode cX10_draft 80 = .ok (.ireturn, 1) := by decide +kernel
theorem dX10_here_0 : decode cX10_here 0 = .ok (.aload_n 0, 1) := by decide +kernel
theorem dX10_here_1 : decode cX10_here 1 = .ok (.getfield 122, 3) := by decide +kernel
theorem dX10_here_4 : decode cX10_here 4 = .ok (.aload_n 0, 1) := by decide +kernel
theorem dX10_here_5 : decode cX10_here 5 = .ok (.getfield 117, 3) := by decide +kernel
theorem dX10_here_8 : decode cX10_here 8 = .ok (.if_icmp .ge 15, 3) := by decide +kernel
theorem dX10_here_11 : decode cX10_here 11 = .ok (.aload_n 0, 1) := by decide +kernel
theorem dX10_here_12 : decode cX10_here 12 = .ok (.getfield 13, 3) := by decide +kernel
theorem dX10_here_15 : decode cX10_here 15 = .ok (.aload_n 0, 1) := by decide +kernel
theorem dX10_here_16 : decode cX10_here 16 = .ok (.getfield 122, 3) := by decide +kernel
theorem dX10_here_19 : decode cX10_here 19 = .ok (.iaload, 1) := by decide +kernel
theorem dX10_here_20 : decode cX10_here 20 = .ok (.goto 4, 3) := by decide +kernel
theorem dX10_here_23 : decode cX10_here 23 = .ok (.iconst (-1), 1) := by decide +kernel
theorem dX10_here_24 : decode cX10_here 24 = .ok (.ireturn, 1) := by decide +kernel
theorem dX10_blanks_0 : decode cX10_blanks 0 = .ok (.aload_n 0, 1) := by decide +kernel
theorem dX10_blanks_1 : decode cX10_blanks 1 = .ok (.invokevirtual 125, 3) := by decide +kernel
theorem dX10_blanks_4 : decode cX10_blanks 4 = .ok (.bipush 32, 2) := by decide +kernel
theorem dX10_blanks_6 : decode cX10_blanks 6 = .ok (.if_icmp .ne 16, 3) := by decide +kernel
theorem dX10_blanks_9 : decode cX10_blanks 9 = .ok (.aload_n 0, 1) := by decide +kernel
theorem dX10_blanks_10 : decode cX10_blanks 10 = .ok (.dup, 1) := by decide +kernel
theorem dX10_blanks_11 : decode cX10_blanks 11 = .ok (.getfield 122, 3) := by decide +kernel
theorem dX10_blanks_14 : decode cX10_blanks 14 = .ok (.iconst 1, 1) := by decide +kernel
theorem dX10_blanks_15 : decode cX10_blanks 15 = .ok (.iadd, 1) := by decide +kernel
theorem dX10_blanks_16 : decode cX10_blanks 16 = .ok (.putfield 122, 3) := by decide +kernel
theorem dX10_blanks_19 : decode cX10_blanks 19 = .ok (.goto (-19), 3) := by decide +kernel
theorem dX10_blanks_22 : decode cX10_blanks 22 = .ok (.return_, 1) := by decide +kernel
theorem dX10_stop_0 : decode cX10_stop 0 = .ok (.aload_n 0, 1) := by decide +kernel
theorem dX10_stop_1 : decode cX10_stop 1 = .ok (.aload_n 0, 1) := by decide +kernel
theorem dX10_stop_2 : decode cX10_stop 2 = .ok (.getfield 129, 3) := by decide +kernel
theorem dX10_stop_5 : decode cX10_stop 5 = .ok (.ifCond .ge 7, 3) := by decide +kernel
theorem dX10_stop_8 : decode cX10_stop 8 = .ok (.iload_n 1, 1) := by decide +kernel
theorem dX10_stop_9 : decode cX10_stop 9 = .ok (.goto 7, 3) := by decide +kernel
theorem dX10_stop_12 : decode cX10_stop 12 = .ok (.aload_n 0, 1) := by decide +kernel
theorem dX10_stop_13 : decode cX10_stop 13 = .ok (.getfield 129, 3) := by decide +kernel
theorem dX10_stop_16 : decode cX10_stop 16 = .ok (.putfield 129, 3) := by decide +kernel
theorem dX10_stop_19 : decode cX10_stop 19 = .ok (.return_, 1) := by decide +kernel
theorem dX10_isName_0 : decode cX10_isName 0 = .ok (.iload_n 0, 1) := by decide +kernel
theorem dX10_isName_1 : decode cX10_isName 1 = .ok (.bipush 65, 2) := by decide +kernel
theorem dX10_isName_3 : decode cX10_isName 3 = .ok (.if_icmp .lt 13, 3) := by decide +kernel
theorem dX10_isName_6 : decode cX10_isName 6 = .ok (.iload_n 0, 1) := by decide +kernel
theorem dX10_isName_7 : decode cX10_isName 7 = .ok (.bipush 90, 2) := by decide +kernel
theorem dX10_isName_9 : decode cX10_isName 9 = .ok (.if_icmp .gt 7, 3) := by decide +kernel
theorem dX10_isName_12 : decode cX10_isName 12 = .ok (.iconst 1, 1) := by decide +kernel
theorem dX10_isName_13 : decode cX10_isName 13 = .ok (.goto 4, 3) := by decide +kernel
theorem dX10_isName_16 : decode cX10_isName 16 = .ok (.iconst 0, 1) := by decide +kernel
theorem dX10_isName_17 : decode cX10_isName 17 = .ok (.ireturn, 1) := by decide +kernel
theorem dX10_isDegree_0 : decode cX10_isDegree 0 = .ok (.iload_n 0, 1) := by decide +kernel
theorem dX10_isDegree_1 : decode cX10_isDegree 1 = .ok (.bipush 49, 2) := by decide +kernel
theorem dX10_isDegree_3 : decode cX10_isDegree 3 = .ok (.if_icmp .lt 13, 3) := by decide +kernel
theorem dX10_isDegree_6 : decode cX10_isDegree 6 = .ok (.iload_n 0, 1) := by decide +kernel
theorem dX10_isDegree_7 : decode cX10_isDegree 7 = .ok (.bipush 55, 2) := by decide +kernel
theorem dX10_isDegree_9 : decode cX10_isDegree 9 = .ok (.if_icmp .gt 7, 3) := by decide +kernel
theorem dX10_isDegree_12 : decode cX10_isDegree 12 = .ok (.iconst 1, 1) := by decide +kernel
theorem dX10_isDegree_13 : decode cX10_isDegree 13 = .ok (.goto 4, 3) := by decide +kernel
theorem dX10_isDegree_16 : decode cX10_isDegree 16 = .ok (.iconst 0, 1) := by decide +kernel
theorem dX10_isDegree_17 : decode cX10_isDegree 17 = .ok (.ireturn, 1) := by decide +kernel
theorem dX10_kindOf_0 : decode cX10_kindOf 0 = .ok (.iload_n 0, 1) := by decide +kernel
theorem dX10_kindOf_1 : decode cX10_kindOf 1 = .ok (.lookupswitch 104 #[(77, 83), (97, 89), (100, 87), (104, 98), (106, 93), (109, 85), (110, 95), (111, 101), (115, 91)], 83) := by decide +kernel
theorem dX10_kindOf_84 : decode cX10_kindOf 84 = .ok (.iconst 0, 1) := by decide +kernel
theorem dX10_kindOf_85 : decode cX10_kindOf 85 = .ok (.ireturn, 1) := by decide +kernel
theorem dX10_kindOf_86 : decode cX10_kindOf 86 = .ok (.iconst 1, 1) := by decide +kernel
theorem dX10_kindOf_87 : decode cX10_kindOf 87 = .ok (.ireturn, 1) := by decide +kernel
theorem dX10_kindOf_88 : decode cX10_kindOf 88 = .ok (.iconst 2, 1) := by decide +kernel
theorem dX10_kindOf_89 : decode cX10_kindOf 89 = .ok (.ireturn, 1) := by decide +kernel
theorem dX10_kindOf_90 : decode cX10_kindOf 90 = .ok (.iconst 3, 1) := by decide +kernel
theorem dX10_kindOf_91 : decode cX10_kindOf 91 = .ok (.ireturn, 1) := by decide +kernel
theorem dX10_kindOf_92 : decode cX10_kindOf 92 = .ok (.iconst 4, 1) := by decide +kernel
theorem dX10_kindOf_93 : decode cX10_kindOf 93 = .ok (.ireturn, 1) := by decide +kernel
theorem dX10_kindOf_94 : decode cX10_kindOf 94 = .ok (.iconst 5, 1) := by decide +kernel
theorem dX10_kindOf_95 : decode cX10_kindOf 95 = .ok (.ireturn, 1) := by decide +kernel
theorem dX10_kindOf_96 : decode cX10_kindOf 96 = .ok (.bipush 6, 2) := by decide +kernel
theorem dX10_kindOf_98 : decode cX10_kindOf 98 = .ok (.ireturn, 1) := by decide +kernel
theorem dX10_kindOf_99 : decode cX10_kindOf 99 = .ok (.bipush 7, 2) := by decide +kernel
theorem dX10_kindOf_101 : decode cX10_kindOf 101 = .ok (.ireturn, 1) := by decide +kernel
theorem dX10_kindOf_102 : decode cX10_kindOf 102 = .ok (.bipush 8, 2) := by decide +kernel
theorem dX10_kindOf_104 : decode cX10_kindOf 104 = .ok (.ireturn, 1) := by decide +kernel
theorem dX10_kindOf_105 : decode cX10_kindOf 105 = .ok (.iconst (-1), 1) := by decide +kernel
theorem dX10_kindOf_106 : decode cX10_kindOf 106 = .ok (.ireturn, 1) := by decide +kernel
theorem dX10_item_0 : decode cX10_item 0 = .ok (.aload_n 0, 1) := by decide +kernel
theorem dX10_item_1 : decode cX10_item 1 = .ok (.invokevirtual 125, 3) := by decide +kernel
theorem dX10_item_4 : decode cX10_item 4 = .ok (.istore_n 1, 1) := by decide +kernel
theorem dX10_item_5 : decode cX10_item 5 = .ok (.aload_n 0, 1) := by decide +kernel
theorem dX10_item_6 : decode cX10_item 6 = .ok (.dup, 1) := by decide +kernel
theorem dX10_item_7 : decode cX10_item 7 = .ok (.getfield 122, 3) := by decide +kernel
theorem dX10_item_10 : decode cX10_item 10 = .ok (.iconst 1, 1) := by decide +kernel
theorem dX10_item_11 : decode cX10_item 11 = .ok (.iadd, 1) := by decide +kernel
theorem dX10_item_12 : decode cX10_item 12 = .ok (.putfield 122, 3) := by decide +kernel
theorem dX10_item_15 : decode cX10_item 15 = .ok (.iload_n 1, 1) := by decide +kernel
theorem dX10_item_16 : decode cX10_item 16 = .ok (.invokestatic 132, 3) := by decide +kernel
theorem dX10_item_19 : decode cX10_item 19 = .ok (.ifCond .eq 8, 3) := by decide +kernel
theorem dX10_item_22 : decode cX10_item 22 = .ok (.iload_n 1, 1) := by decide +kernel
theorem dX10_item_23 : decode cX10_item 23 = .ok (.bipush 65, 2) := by decide +kernel
theorem dX10_item_25 : decode cX10_item 25 = .ok (.isub, 1) := by decide +kernel
theorem dX10_item_26 : decode cX10_item 26 = .ok (.ireturn, 1) := by decide +kernel
theorem dX10_item_27 : decode cX10_item 27 = .ok (.aload_n 0, 1) := by decide +kernel
theorem dX10_item_28 : decode cX10_item 28 = .ok (.invokevirtual 125, 3) := by decide +kernel
theorem dX10_item_31 : decode cX10_item 31 = .ok (.invokestatic 136, 3) := by decide +kernel
theorem dX10_item_34 : decode cX10_item 34 = .ok (.istore_n 2, 1) := by decide +kernel
theorem dX10_item_35 : decode cX10_item 35 = .ok (.aload_n 0, 1) := by decide +kernel
theorem dX10_item_36 : decode cX10_item 36 = .ok (.dup, 1) := by decide +kernel
theorem dX10_item_37 : decode cX10_item 37 = .ok (.getfield 122, 3) := by decide +kernel
theorem dX10_item_40 : decode cX10_item 40 = .ok (.iload_n 2, 1) := by decide +kernel
theorem dX10_item_41 : decode cX10_item 41 = .ok (.ifCond .lt 7, 3) := by decide +kernel
theorem dX10_item_44 : decode cX10_item 44 = .ok (.iconst 1, 1) := by decide +kernel
theorem dX10_item_45 : decode cX10_item 45 = .ok (.goto 4, 3) := by decide +kernel
theorem dX10_item_48 : decode cX10_item 48 = .ok (.iconst 0, 1) := by decide +kernel
theorem dX10_item_49 : decode cX10_item 49 = .ok (.iadd, 1) := by decide +kernel
theorem dX10_item_50 : decode cX10_item 50 = .ok (.putfield 122, 3) := by decide +kernel
theorem dX10_item_53 : decode cX10_item 53 = .ok (.bipush 100, 2) := by decide +kernel
theorem dX10_item_55 : decode cX10_item 55 = .ok (.bipush 10, 2) := by decide +kernel
theorem dX10_item_57 : decode cX10_item 57 = .ok (.iload_n 1, 1) := by decide +kernel
theorem dX10_item_58 : decode cX10_item 58 = .ok (.bipush 48, 2) := by decide +kernel
theorem dX10_item_60 : decode cX10_item 60 = .ok (.isub, 1) := by decide +kernel
theorem dX10_item_61 : decode cX10_item 61 = .ok (.imul, 1) := by decide +kernel
theorem dX10_item_62 : decode cX10_item 62 = .ok (.iadd, 1) := by decide +kernel
theorem dX10_item_63 : decode cX10_item 63 = .ok (.iload_n 2, 1) := by decide +kernel
theorem dX10_item_64 : decode cX10_item 64 = .ok (.iadd, 1) := by decide +kernel
theorem dX10_item_65 : decode cX10_item 65 = .ok (.iconst 1, 1) := by decide +kernel
theorem dX10_item_66 : decode cX10_item 66 = .ok (.iadd, 1) := by decide +kernel
theorem dX10_item_67 : decode cX10_item 67 = .ok (.ireturn, 1) := by decide +kernel
theorem dX10_isItem_0 : decode cX10_isItem 0 = .ok (.aload_n 0, 1) := by decide +kernel
theorem dX10_isItem_1 : decode cX10_isItem 1 = .ok (.invokevirtual 125, 3) := by decide +kernel
theorem dX10_isItem_4 : decode cX10_isItem 4 = .ok (.invokestatic 132, 3) := by decide +kernel
theorem dX10_isItem_7 : decode cX10_isItem 7 = .ok (.ifCond .ne 13, 3) := by decide +kernel
theorem dX10_isItem_10 : decode cX10_isItem 10 = .ok (.aload_n 0, 1) := by decide +kernel
theorem dX10_isItem_11 : decode cX10_isItem 11 = .ok (.invokevirtual 125, 3) := by decide +kernel
theorem dX10_isItem_14 : decode cX10_isItem 14 = .ok (.invokestatic 140, 3) := by decide +kernel
theorem dX10_isItem_17 : decode cX10_isItem 17 = .ok (.ifCond .eq 7, 3) := by decide +kernel
theorem dX10_isItem_20 : decode cX10_isItem 20 = .ok (.iconst 1, 1) := by decide +kernel
theorem dX10_isItem_21 : decode cX10_isItem 21 = .ok (.goto 4, 3) := by decide +kernel
theorem dX10_isItem_24 : decode cX10_isItem 24 = .ok (.iconst 0, 1) := by decide +kernel
theorem dX10_isItem_25 : decode cX10_isItem 25 = .ok (.ireturn, 1) := by decide +kernel
theorem dX10_figures_0 : decode cX10_figures 0 = .ok (.iconst 0, 1) := by decide +kernel
theorem dX10_figures_1 : decode cX10_figures 1 = .ok (.istore_n 1, 1) := by decide +kernel
theorem dX10_figures_2 : decode cX10_figures 2 = .ok (.iconst 0, 1) := by decide +kernel
theorem dX10_figures_3 : decode cX10_figures 3 = .ok (.istore_n 2, 1) := by decide +kernel
theorem dX10_figures_4 : decode cX10_figures 4 = .ok (.aload_n 0, 1) := by decide +kernel
theorem dX10_figures_5 : decode cX10_figures 5 = .ok (.getfield 129, 3) := by decide +kernel
theorem dX10_figures_8 : decode cX10_figures 8 = .ok (.ifCond .ge 66, 3) := by decide +kernel
theorem dX10_figures_11 : decode cX10_figures 11 = .ok (.aload_n 0, 1) := by decide +kernel
theorem dX10_figures_12 : decode cX10_figures 12 = .ok (.invokevirtual 125, 3) := by decide +kernel
theorem dX10_figures_15 : decode cX10_figures 15 = .ok (.bipush 48, 2) := by decide +kernel
theorem dX10_figures_17 : decode cX10_figures 17 = .ok (.if_icmp .lt 57, 3) := by decide +kernel
theorem dX10_figures_20 : decode cX10_figures 20 = .ok (.aload_n 0, 1) := by decide +kernel
theorem dX10_figures_21 : decode cX10_figures 21 = .ok (.invokevirtual 125, 3) := by decide +kernel
theorem dX10_figures_24 : decode cX10_figures 24 = .ok (.bipush 57, 2) := by decide +kernel
theorem dX10_figures_26 : decode cX10_figures 26 = .ok (.if_icmp .gt 48, 3) := by decide +kernel
theorem dX10_figures_29 : decode cX10_figures 29 = .ok (.iload_n 2, 1) := by decide +kernel
theorem dX10_figures_30 : decode cX10_figures 30 = .ok (.iconst 3, 1) := by decide +kernel
theorem dX10_figures_31 : decode cX10_figures 31 = .ok (.if_icmp .ne 14, 3) := by decide +kernel
theorem dX10_figures_34 : decode cX10_figures 34 = .ok (.aload_n 0, 1) := by decide +kernel
theorem dX10_figures_35 : decode cX10_figures 35 = .ok (.aload_n 0, 1) := by decide +kernel
theorem dX10_figures_36 : decode cX10_figures 36 = .ok (.getfield 122, 3) := by decide +kernel
theorem dX10_figures_39 : decode cX10_figures 39 = .ok (.invokevirtual 143, 3) := by decide +kernel
theorem dX10_figures_42 : decode cX10_figures 42 = .ok (.goto (-38), 3) := by decide +kernel
theorem dX10_figures_45 : decode cX10_figures 45 = .ok (.bipush 10, 2) := by decide +kernel
end
section
theorem dX10_figures_47 : decode cX10_figures 47 = .ok (.iload_n 1, 1) := by decide +kernel
theorem dX10_figures_48 : decode cX10_figures 48 = .ok (.imul, 1) := by decide +kernel
theorem dX10_figures_49 : decode cX10_figures 49 = .ok (.aload_n 0, 1) := by decide +kernel
theorem dX10_figures_50 : decode cX10_figures 50 = .ok (.invokevirtual 125, 3) := by decide +kernel
theorem dX10_figures_53 : decode cX10_figures 53 = .ok (.iadd, 1) := by decide +kernel
theorem dX10_figures_54 : decode cX10_figures 54 = .ok (.bipush 48, 2) := by decide +kernel
theorem dX10_figures_56 : decode cX10_figures 56 = .ok (.isub, 1) := by decide +kernel
theorem dX10_figures_57 : decode cX10_figures 57 = .ok (.istore_n 1, 1) := by decide +kernel
theorem dX10_figures_58 : decode cX10_figures 58 = .ok (.aload_n 0, 1) := by decide +kernel
theorem dX10_figures_59 : decode cX10_figures 59 = .ok (.dup, 1) := by decide +kernel
theorem dX10_figures_60 : decode cX10_figures 60 = .ok (.getfield 122, 3) := by decide +kernel
theorem dX10_figures_63 : decode cX10_figures 63 = .ok (.iconst 1, 1) := by decide +kernel
theorem dX10_figures_64 : decode cX10_figures 64 = .ok (.iadd, 1) := by decide +kernel
theorem dX10_figures_65 : decode cX10_figures 65 = .ok (.putfield 122, 3) := by decide +kernel
theorem dX10_figures_68 : decode cX10_figures 68 = .ok (.iinc 2 1, 3) := by decide +kernel
theorem dX10_figures_71 : decode cX10_figures 71 = .ok (.goto (-67), 3) := by decide +kernel
theorem dX10_figures_74 : decode cX10_figures 74 = .ok (.iload_n 2, 1) := by decide +kernel
theorem dX10_figures_75 : decode cX10_figures 75 = .ok (.ifCond .ne 11, 3) := by decide +kernel
theorem dX10_figures_78 : decode cX10_figures 78 = .ok (.aload_n 0, 1) := by decide +kernel
theorem dX10_figures_79 : decode cX10_figures 79 = .ok (.aload_n 0, 1) := by decide +kernel
theorem dX10_figures_80 : decode cX10_figures 80 = .ok (.getfield 122, 3) := by decide +kernel
theorem dX10_figures_83 : decode cX10_figures 83 = .ok (.invokevirtual 143, 3) := by decide +kernel
theorem dX10_figures_86 : decode cX10_figures 86 = .ok (.iload_n 1, 1) := by decide +kernel
theorem dX10_figures_87 : decode cX10_figures 87 = .ok (.ireturn, 1) := by decide +kernel
theorem dX10_rule_0 : decode cX10_rule 0 = .ok (.aload_n 0, 1) := by decide +kernel
theorem dX10_rule_1 : decode cX10_rule 1 = .ok (.getfield 147, 3) := by decide +kernel
theorem dX10_rule_4 : decode cX10_rule 4 = .ok (.istore_n 1, 1) := by decide +kernel
theorem dX10_rule_5 : decode cX10_rule 5 = .ok (.aload_n 0, 1) := by decide +kernel
theorem dX10_rule_6 : decode cX10_rule 6 = .ok (.invokevirtual 125, 3) := by decide +kernel
theorem dX10_rule_9 : decode cX10_rule 9 = .ok (.invokestatic 132, 3) := by decide +kernel
theorem dX10_rule_12 : decode cX10_rule 12 = .ok (.ifCond .ne 12, 3) := by decide +kernel
theorem dX10_rule_15 : decode cX10_rule 15 = .ok (.aload_n 0, 1) := by decide +kernel
theorem dX10_rule_16 : decode cX10_rule 16 = .ok (.aload_n 0, 1) := by decide +kernel
theorem dX10_rule_17 : decode cX10_rule 17 = .ok (.getfield 122, 3) := by decide +kernel
theorem dX10_rule_20 : decode cX10_rule 20 = .ok (.invokevirtual 143, 3) := by decide +kernel
theorem dX10_rule_23 : decode cX10_rule 23 = .ok (.return_, 1) := by decide +kernel
theorem dX10_rule_24 : decode cX10_rule 24 = .ok (.aload_n 0, 1) := by decide +kernel
theorem dX10_rule_25 : decode cX10_rule 25 = .ok (.getfield 49, 3) := by decide +kernel
theorem dX10_rule_28 : decode cX10_rule 28 = .ok (.iload_n 1, 1) := by decide +kernel
theorem dX10_rule_29 : decode cX10_rule 29 = .ok (.aload_n 0, 1) := by decide +kernel
theorem dX10_rule_30 : decode cX10_rule 30 = .ok (.getfield 122, 3) := by decide +kernel
theorem dX10_rule_33 : decode cX10_rule 33 = .ok (.iastore, 1) := by decide +kernel
theorem dX10_rule_34 : decode cX10_rule 34 = .ok (.aload_n 0, 1) := by decide +kernel
theorem dX10_rule_35 : decode cX10_rule 35 = .ok (.getfield 37, 3) := by decide +kernel
theorem dX10_rule_38 : decode cX10_rule 38 = .ok (.iload_n 1, 1) := by decide +kernel
theorem dX10_rule_39 : decode cX10_rule 39 = .ok (.aload_n 0, 1) := by decide +kernel
theorem dX10_rule_40 : decode cX10_rule 40 = .ok (.invokevirtual 125, 3) := by decide +kernel
theorem dX10_rule_43 : decode cX10_rule 43 = .ok (.bipush 65, 2) := by decide +kernel
theorem dX10_rule_45 : decode cX10_rule 45 = .ok (.isub, 1) := by decide +kernel
theorem dX10_rule_46 : decode cX10_rule 46 = .ok (.iastore, 1) := by decide +kernel
theorem dX10_rule_47 : decode cX10_rule 47 = .ok (.aload_n 0, 1) := by decide +kernel
theorem dX10_rule_48 : decode cX10_rule 48 = .ok (.getfield 43, 3) := by decide +kernel
theorem dX10_rule_51 : decode cX10_rule 51 = .ok (.iload_n 1, 1) := by decide +kernel
theorem dX10_rule_52 : decode cX10_rule 52 = .ok (.iconst (-1), 1) := by decide +kernel
theorem dX10_rule_53 : decode cX10_rule 53 = .ok (.iastore, 1) := by decide +kernel
theorem dX10_rule_54 : decode cX10_rule 54 = .ok (.aload_n 0, 1) := by decide +kernel
theorem dX10_rule_55 : decode cX10_rule 55 = .ok (.getfield 46, 3) := by decide +kernel
theorem dX10_rule_58 : decode cX10_rule 58 = .ok (.iload_n 1, 1) := by decide +kernel
theorem dX10_rule_59 : decode cX10_rule 59 = .ok (.iconst 0, 1) := by decide +kernel
theorem dX10_rule_60 : decode cX10_rule 60 = .ok (.iastore, 1) := by decide +kernel
theorem dX10_rule_61 : decode cX10_rule 61 = .ok (.aload_n 0, 1) := by decide +kernel
theorem dX10_rule_62 : decode cX10_rule 62 = .ok (.dup, 1) := by decide +kernel
theorem dX10_rule_63 : decode cX10_rule 63 = .ok (.getfield 122, 3) := by decide +kernel
theorem dX10_rule_66 : decode cX10_rule 66 = .ok (.iconst 1, 1) := by decide +kernel
theorem dX10_rule_67 : decode cX10_rule 67 = .ok (.iadd, 1) := by decide +kernel
theorem dX10_rule_68 : decode cX10_rule 68 = .ok (.putfield 122, 3) := by decide +kernel
theorem dX10_rule_71 : decode cX10_rule 71 = .ok (.aload_n 0, 1) := by decide +kernel
theorem dX10_rule_72 : decode cX10_rule 72 = .ok (.invokevirtual 150, 3) := by decide +kernel
theorem dX10_rule_75 : decode cX10_rule 75 = .ok (.aload_n 0, 1) := by decide +kernel
theorem dX10_rule_76 : decode cX10_rule 76 = .ok (.invokevirtual 125, 3) := by decide +kernel
theorem dX10_rule_79 : decode cX10_rule 79 = .ok (.bipush 61, 2) := by decide +kernel
theorem dX10_rule_81 : decode cX10_rule 81 = .ok (.if_icmp .eq 12, 3) := by decide +kernel
theorem dX10_rule_84 : decode cX10_rule 84 = .ok (.aload_n 0, 1) := by decide +kernel
theorem dX10_rule_85 : decode cX10_rule 85 = .ok (.aload_n 0, 1) := by decide +kernel
theorem dX10_rule_86 : decode cX10_rule 86 = .ok (.getfield 122, 3) := by decide +kernel
theorem dX10_rule_89 : decode cX10_rule 89 = .ok (.invokevirtual 143, 3) := by decide +kernel
theorem dX10_rule_92 : decode cX10_rule 92 = .ok (.return_, 1) := by decide +kernel
theorem dX10_rule_93 : decode cX10_rule 93 = .ok (.aload_n 0, 1) := by decide +kernel
theorem dX10_rule_94 : decode cX10_rule 94 = .ok (.dup, 1) := by decide +kernel
theorem dX10_rule_95 : decode cX10_rule 95 = .ok (.getfield 122, 3) := by decide +kernel
theorem dX10_rule_98 : decode cX10_rule 98 = .ok (.iconst 1, 1) := by decide +kernel
theorem dX10_rule_99 : decode cX10_rule 99 = .ok (.iadd, 1) := by decide +kernel
theorem dX10_rule_100 : decode cX10_rule 100 = .ok (.putfield 122, 3) := by decide +kernel
theorem dX10_rule_103 : decode cX10_rule 103 = .ok (.aload_n 0, 1) := by decide +kernel
theorem dX10_rule_104 : decode cX10_rule 104 = .ok (.invokevirtual 150, 3) := by decide +kernel
theorem dX10_rule_107 : decode cX10_rule 107 = .ok (.aload_n 0, 1) := by decide +kernel
theorem dX10_rule_108 : decode cX10_rule 108 = .ok (.invokevirtual 153, 3) := by decide +kernel
theorem dX10_rule_111 : decode cX10_rule 111 = .ok (.ifCond .ne 12, 3) := by decide +kernel
theorem dX10_rule_114 : decode cX10_rule 114 = .ok (.aload_n 0, 1) := by decide +kernel
theorem dX10_rule_115 : decode cX10_rule 115 = .ok (.aload_n 0, 1) := by decide +kernel
theorem dX10_rule_116 : decode cX10_rule 116 = .ok (.getfield 122, 3) := by decide +kernel
theorem dX10_rule_119 : decode cX10_rule 119 = .ok (.invokevirtual 143, 3) := by decide +kernel
theorem dX10_rule_122 : decode cX10_rule 122 = .ok (.return_, 1) := by decide +kernel
theorem dX10_rule_123 : decode cX10_rule 123 = .ok (.aload_n 0, 1) := by decide +kernel
theorem dX10_rule_124 : decode cX10_rule 124 = .ok (.getfield 40, 3) := by decide +kernel
theorem dX10_rule_127 : decode cX10_rule 127 = .ok (.iload_n 1, 1) := by decide +kernel
theorem dX10_rule_128 : decode cX10_rule 128 = .ok (.aload_n 0, 1) := by decide +kernel
theorem dX10_rule_129 : decode cX10_rule 129 = .ok (.invokevirtual 157, 3) := by decide +kernel
theorem dX10_rule_132 : decode cX10_rule 132 = .ok (.iastore, 1) := by decide +kernel
theorem dX10_rule_133 : decode cX10_rule 133 = .ok (.aload_n 0, 1) := by decide +kernel
theorem dX10_rule_134 : decode cX10_rule 134 = .ok (.invokevirtual 150, 3) := by decide +kernel
theorem dX10_rule_137 : decode cX10_rule 137 = .ok (.aload_n 0, 1) := by decide +kernel
theorem dX10_rule_138 : decode cX10_rule 138 = .ok (.invokevirtual 153, 3) := by decide +kernel
theorem dX10_rule_141 : decode cX10_rule 141 = .ok (.ifCond .eq 17, 3) := by decide +kernel
theorem dX10_rule_144 : decode cX10_rule 144 = .ok (.aload_n 0, 1) := by decide +kernel
theorem dX10_rule_145 : decode cX10_rule 145 = .ok (.getfield 43, 3) := by decide +kernel
theorem dX10_rule_148 : decode cX10_rule 148 = .ok (.iload_n 1, 1) := by decide +kernel
theorem dX10_rule_149 : decode cX10_rule 149 = .ok (.aload_n 0, 1) := by decide +kernel
theorem dX10_rule_150 : decode cX10_rule 150 = .ok (.invokevirtual 157, 3) := by decide +kernel
theorem dX10_rule_153 : decode cX10_rule 153 = .ok (.iastore, 1) := by decide +kernel
theorem dX10_rule_154 : decode cX10_rule 154 = .ok (.aload_n 0, 1) := by decide +kernel
theorem dX10_rule_155 : decode cX10_rule 155 = .ok (.invokevirtual 150, 3) := by decide +kernel
theorem dX10_rule_158 : decode cX10_rule 158 = .ok (.aload_n 0, 1) := by decide +kernel
theorem dX10_rule_159 : decode cX10_rule 159 = .ok (.invokevirtual 125, 3) := by decide +kernel
theorem dX10_rule_162 : decode cX10_rule 162 = .ok (.bipush 58, 2) := by decide +kernel
theorem dX10_rule_164 : decode cX10_rule 164 = .ok (.if_icmp .ne 31, 3) := by decide +kernel
theorem dX10_rule_167 : decode cX10_rule 167 = .ok (.aload_n 0, 1) := by decide +kernel
theorem dX10_rule_168 : decode cX10_rule 168 = .ok (.dup, 1) := by decide +kernel
theorem dX10_rule_169 : decode cX10_rule 169 = .ok (.getfield 122, 3) := by decide +kernel
theorem dX10_rule_172 : decode cX10_rule 172 = .ok (.iconst 1, 1) := by decide +kernel
theorem dX10_rule_173 : decode cX10_rule 173 = .ok (.iadd, 1) := by decide +kernel
theorem dX10_rule_174 : decode cX10_rule 174 = .ok (.putfield 122, 3) := by decide +kernel
theorem dX10_rule_177 : decode cX10_rule 177 = .ok (.aload_n 0, 1) := by decide +kernel
theorem dX10_rule_178 : decode cX10_rule 178 = .ok (.invokevirtual 150, 3) := by decide +kernel
theorem dX10_rule_181 : decode cX10_rule 181 = .ok (.aload_n 0, 1) := by decide +kernel
theorem dX10_rule_182 : decode cX10_rule 182 = .ok (.getfield 46, 3) := by decide +kernel
theorem dX10_rule_185 : decode cX10_rule 185 = .ok (.iload_n 1, 1) := by decide +kernel
theorem dX10_rule_186 : decode cX10_rule 186 = .ok (.aload_n 0, 1) := by decide +kernel
theorem dX10_rule_187 : decode cX10_rule 187 = .ok (.invokevirtual 160, 3) := by decide +kernel
theorem dX10_rule_190 : decode cX10_rule 190 = .ok (.iastore, 1) := by decide +kernel
theorem dX10_rule_191 : decode cX10_rule 191 = .ok (.aload_n 0, 1) := by decide +kernel
theorem dX10_rule_192 : decode cX10_rule 192 = .ok (.invokevirtual 150, 3) := by decide +kernel
theorem dX10_rule_195 : decode cX10_rule 195 = .ok (.aload_n 0, 1) := by decide +kernel
theorem dX10_rule_196 : decode cX10_rule 196 = .ok (.getfield 129, 3) := by decide +kernel
theorem dX10_rule_199 : decode cX10_rule 199 = .ok (.ifCond .ge 20, 3) := by decide +kernel
theorem dX10_rule_202 : decode cX10_rule 202 = .ok (.aload_n 0, 1) := by decide +kernel
theorem dX10_rule_203 : decode cX10_rule 203 = .ok (.invokevirtual 125, 3) := by decide +kernel
theorem dX10_rule_206 : decode cX10_rule 206 = .ok (.bipush 59, 2) := by decide +kernel
theorem dX10_rule_208 : decode cX10_rule 208 = .ok (.if_icmp .eq 11, 3) := by decide +kernel
theorem dX10_rule_211 : decode cX10_rule 211 = .ok (.aload_n 0, 1) := by decide +kernel
theorem dX10_rule_212 : decode cX10_rule 212 = .ok (.aload_n 0, 1) := by decide +kernel
theorem dX10_rule_213 : decode cX10_rule 213 = .ok (.getfield 122, 3) := by decide +kernel
theorem dX10_rule_216 : decode cX10_rule 216 = .ok (.invokevirtual 143, 3) := by decide +kernel
theorem dX10_rule_219 : decode cX10_rule 219 = .ok (.aload_n 0, 1) := by decide +kernel
theorem dX10_rule_220 : decode cX10_rule 220 = .ok (.dup, 1) := by decide +kernel
theorem dX10_rule_221 : decode cX10_rule 221 = .ok (.getfield 122, 3) := by decide +kernel
theorem dX10_rule_224 : decode cX10_rule 224 = .ok (.iconst 1, 1) := by decide +kernel
theorem dX10_rule_225 : decode cX10_rule 225 = .ok (.iadd, 1) := by decide +kernel
theorem dX10_rule_226 : decode cX10_rule 226 = .ok (.putfield 122, 3) := by decide +kernel
theorem dX10_rule_229 : decode cX10_rule 229 = .ok (.aload_n 0, 1) := by decide +kernel
theorem dX10_rule_230 : decode cX10_rule 230 = .ok (.dup, 1) := by decide +kernel
theorem dX10_rule_231 : decode cX10_rule 231 = .ok (.getfield 147, 3) := by decide +kernel
theorem dX10_rule_234 : decode cX10_rule 234 = .ok (.iconst 1, 1) := by decide +kernel
theorem dX10_rule_235 : decode cX10_rule 235 = .ok (.iadd, 1) := by decide +kernel
theorem dX10_rule_236 : decode cX10_rule 236 = .ok (.putfield 147, 3) := by decide +kernel
theorem dX10_rule_239 : decode cX10_rule 239 = .ok (.return_, 1) := by decide +kernel
theorem dX10_isUnary_0 : decode cX10_isUnary 0 = .ok (.aload_n 0, 1) := by decide +kernel
theorem dX10_isUnary_1 : decode cX10_isUnary 1 = .ok (.getfield 43, 3) := by decide +kernel
theorem dX10_isUnary_4 : decode cX10_isUnary 4 = .ok (.iload_n 1, 1) := by decide +kernel
theorem dX10_isUnary_5 : decode cX10_isUnary 5 = .ok (.iaload, 1) := by decide +kernel
theorem dX10_isUnary_6 : decode cX10_isUnary 6 = .ok (.iconst (-1), 1) := by decide +kernel
theorem dX10_isUnary_7 : decode cX10_isUnary 7 = .ok (.if_icmp .ne 18, 3) := by decide +kernel
theorem dX10_isUnary_10 : decode cX10_isUnary 10 = .ok (.aload_n 0, 1) := by decide +kernel
theorem dX10_isUnary_11 : decode cX10_isUnary 11 = .ok (.getfield 40, 3) := by decide +kernel
theorem dX10_isUnary_14 : decode cX10_isUnary 14 = .ok (.iload_n 1, 1) := by decide +kernel
theorem dX10_isUnary_15 : decode cX10_isUnary 15 = .ok (.iaload, 1) := by decide +kernel
theorem dX10_isUnary_16 : decode cX10_isUnary 16 = .ok (.bipush 100, 2) := by decide +kernel
theorem dX10_isUnary_18 : decode cX10_isUnary 18 = .ok (.if_icmp .ge 7, 3) := by decide +kernel
theorem dX10_isUnary_21 : decode cX10_isUnary 21 = .ok (.iconst 1, 1) := by decide +kernel
theorem dX10_isUnary_22 : decode cX10_isUnary 22 = .ok (.goto 4, 3) := by decide +kernel
theorem dX10_isUnary_25 : decode cX10_isUnary 25 = .ok (.iconst 0, 1) := by decide +kernel
theorem dX10_isUnary_26 : decode cX10_isUnary 26 = .ok (.ireturn, 1) := by decide +kernel
theorem dX10_findRings_0 : decode cX10_findRings 0 = .ok (.iconst 0, 1) := by decide +kernel
theorem dX10_findRings_1 : decode cX10_findRings 1 = .ok (.istore_n 1, 1) := by decide +kernel
theorem dX10_findRings_2 : decode cX10_findRings 2 = .ok (.iload_n 1, 1) := by decide +kernel
theorem dX10_findRings_3 : decode cX10_findRings 3 = .ok (.sipush 676, 3) := by decide +kernel
theorem dX10_findRings_6 : decode cX10_findRings 6 = .ok (.if_icmp .ge 16, 3) := by decide +kernel
theorem dX10_findRings_9 : decode cX10_findRings 9 = .ok (.aload_n 0, 1) := by decide +kernel
theorem dX10_findRings_10 : decode cX10_findRings 10 = .ok (.getfield 52, 3) := by decide +kernel
theorem dX10_findRings_13 : decode cX10_findRings 13 = .ok (.iload_n 1, 1) := by decide +kernel
theorem dX10_findRings_14 : decode cX10_findRings 14 = .ok (.iconst 0, 1) := by decide +kernel
theorem dX10_findRings_15 : decode cX10_findRings 15 = .ok (.bastore, 1) := by decide +kernel
theorem dX10_findRings_16 : decode cX10_findRings 16 = .ok (.iinc 1 1, 3) := by decide +kernel
theorem dX10_findRings_19 : decode cX10_findRings 19 = .ok (.goto (-17), 3) := by decide +kernel
theorem dX10_findRings_22 : decode cX10_findRings 22 = .ok (.iconst 0, 1) := by decide +kernel
theorem dX10_findRings_23 : decode cX10_findRings 23 = .ok (.istore_n 1, 1) := by decide +kernel
theorem dX10_findRings_24 : decode cX10_findRings 24 = .ok (.iload_n 1, 1) := by decide +kernel
theorem dX10_findRings_25 : decode cX10_findRings 25 = .ok (.aload_n 0, 1) := by decide +kernel
theorem dX10_findRings_26 : decode cX10_findRings 26 = .ok (.getfield 147, 3) := by decide +kernel
theorem dX10_findRings_29 : decode cX10_findRings 29 = .ok (.if_icmp .ge 39, 3) := by decide +kernel
theorem dX10_findRings_32 : decode cX10_findRings 32 = .ok (.aload_n 0, 1) := by decide +kernel
theorem dX10_findRings_33 : decode cX10_findRings 33 = .ok (.iload_n 1, 1) := by decide +kernel
theorem dX10_findRings_34 : decode cX10_findRings 34 = .ok (.invokevirtual 163, 3) := by decide +kernel
theorem dX10_findRings_37 : decode cX10_findRings 37 = .ok (.ifCond .eq 25, 3) := by decide +kernel
theorem dX10_findRings_40 : decode cX10_findRings 40 = .ok (.aload_n 0, 1) := by decide +kernel
theorem dX10_findRings_41 : decode cX10_findRings 41 = .ok (.getfield 52, 3) := by decide +kernel
theorem dX10_findRings_44 : decode cX10_findRings 44 = .ok (.bipush 26, 2) := by decide +kernel
theorem dX10_findRings_46 : decode cX10_findRings 46 = .ok (.aload_n 0, 1) := by decide +kernel
theorem dX10_findRings_47 : decode cX10_findRings 47 = .ok (.getfield 37, 3) := by decide +kernel
theorem dX10_findRings_50 : decode cX10_findRings 50 = .ok (.iload_n 1, 1) := by decide +kernel
theorem dX10_findRings_51 : decode cX10_findRings 51 = .ok (.iaload, 1) := by decide +kernel
theorem dX10_findRings_52 : decode cX10_findRings 52 = .ok (.imul, 1) := by decide +kernel
theorem dX10_findRings_53 : decode cX10_findRings 53 = .ok (.aload_n 0, 1) := by decide +kernel
theorem dX10_findRings_54 : decode cX10_findRings 54 = .ok (.getfield 40, 3) := by decide +kernel
theorem dX10_findRings_57 : decode cX10_findRings 57 = .ok (.iload_n 1, 1) := by decide +kernel
theorem dX10_findRings_58 : decode cX10_findRings 58 = .ok (.iaload, 1) := by decide +kernel
theorem dX10_findRings_59 : decode cX10_findRings 59 = .ok (.iadd, 1) := by decide +kernel
theorem dX10_findRings_60 : decode cX10_findRings 60 = .ok (.iconst 1, 1) := by decide +kernel
theorem dX10_findRings_61 : decode cX10_findRings 61 = .ok (.bastore, 1) := by decide +kernel
theorem dX10_findRings_62 : decode cX10_findRings 62 = .ok (.iinc 1 1, 3) := by decide +kernel
theorem dX10_findRings_65 : decode cX10_findRings 65 = .ok (.goto (-41), 3) := by decide +kernel
theorem dX10_findRings_68 : decode cX10_findRings 68 = .ok (.iconst 0, 1) := by decide +kernel
theorem dX10_findRings_69 : decode cX10_findRings 69 = .ok (.istore_n 1, 1) := by decide +kernel
theorem dX10_findRings_70 : decode cX10_findRings 70 = .ok (.iload_n 1, 1) := by decide +kernel
theorem dX10_findRings_71 : decode cX10_findRings 71 = .ok (.bipush 26, 2) := by decide +kernel
theorem dX10_findRings_73 : decode cX10_findRings 73 = .ok (.if_icmp .ge 84, 3) := by decide +kernel
theorem dX10_findRings_76 : decode cX10_findRings 76 = .ok (.iconst 0, 1) := by decide +kernel
theorem dX10_findRings_77 : decode cX10_findRings 77 = .ok (.istore_n 2, 1) := by decide +kernel
theorem dX10_findRings_78 : decode cX10_findRings 78 = .ok (.iload_n 2, 1) := by decide +kernel
theorem dX10_findRings_79 : decode cX10_findRings 79 = .ok (.bipush 26, 2) := by decide +kernel
theorem dX10_findRings_81 : decode cX10_findRings 81 = .ok (.if_icmp .ge 70, 3) := by decide +kernel
theorem dX10_findRings_84 : decode cX10_findRings 84 = .ok (.iconst 0, 1) := by decide +kernel
theorem dX10_findRings_85 : decode cX10_findRings 85 = .ok (.istore_n 3, 1) := by decide +kernel
theorem dX10_findRings_86 : decode cX10_findRings 86 = .ok (.iload_n 3, 1) := by decide +kernel
theorem dX10_findRings_87 : decode cX10_findRings 87 = .ok (.bipush 26, 2) := by decide +kernel
theorem dX10_findRings_89 : decode cX10_findRings 89 = .ok (.if_icmp .ge 56, 3) := by decide +kernel
theorem dX10_findRings_92 : decode cX10_findRings 92 = .ok (.aload_n 0, 1) := by decide +kernel
theorem dX10_findRings_93 : decode cX10_findRings 93 = .ok (.getfield 52, 3) := by decide +kernel
theorem dX10_findRings_96 : decode cX10_findRings 96 = .ok (.bipush 26, 2) := by decide +kernel
theorem dX10_findRings_98 : decode cX10_findRings 98 = .ok (.iload_n 2, 1) := by decide +kernel
theorem dX10_findRings_99 : decode cX10_findRings 99 = .ok (.imul, 1) := by decide +kernel
theorem dX10_findRings_100 : decode cX10_findRings 100 = .ok (.iload_n 3, 1) := by decide +kernel
theorem dX10_findRings_101 : decode cX10_findRings 101 = .ok (.iadd, 1) := by decide +kernel
theorem dX10_findRings_102 : decode cX10_findRings 102 = .ok (.dup2, 1) := by decide +kernel
theorem dX10_findRings_103 : decode cX10_findRings 103 = .ok (.baload, 1) := by decide +kernel
theorem dX10_findRings_104 : decode cX10_findRings 104 = .ok (.aload_n 0, 1) := by decide +kernel
theorem dX10_findRings_105 : decode cX10_findRings 105 = .ok (.getfield 52, 3) := by decide +kernel
theorem dX10_findRings_108 : decode cX10_findRings 108 = .ok (.bipush 26, 2) := by decide +kernel
theorem dX10_findRings_110 : decode cX10_findRings 110 = .ok (.iload_n 2, 1) := by decide +kernel
theorem dX10_findRings_111 : decode cX10_findRings 111 = .ok (.imul, 1) := by decide +kernel
theorem dX10_findRings_112 : decode cX10_findRings 112 = .ok (.iload_n 1, 1) := by decide +kernel
theorem dX10_findRings_113 : decode cX10_findRings 113 = .ok (.iadd, 1) := by decide +kernel
theorem dX10_findRings_114 : decode cX10_findRings 114 = .ok (.baload, 1) := by decide +kernel
theorem dX10_findRings_115 : decode cX10_findRings 115 = .ok (.ifCond .eq 21, 3) := by decide +kernel
theorem dX10_findRings_118 : decode cX10_findRings 118 = .ok (.aload_n 0, 1) := by decide +kernel
theorem dX10_findRings_119 : decode cX10_findRings 119 = .ok (.getfield 52, 3) := by decide +kernel
theorem dX10_findRings_122 : decode cX10_findRings 122 = .ok (.bipush 26, 2) := by decide +kernel
theorem dX10_findRings_124 : decode cX10_findRings 124 = .ok (.iload_n 1, 1) := by decide +kernel
theorem dX10_findRings_125 : decode cX10_findRings 125 = .ok (.imul, 1) := by decide +kernel
theorem dX10_findRings_126 : decode cX10_findRings 126 = .ok (.iload_n 3, 1) := by decide +kernel
theorem dX10_findRings_127 : decode cX10_findRings 127 = .ok (.iadd, 1) := by decide +kernel
theorem dX10_findRings_128 : decode cX10_findRings 128 = .ok (.baload, 1) := by decide +kernel
theorem dX10_findRings_129 : decode cX10_findRings 129 = .ok (.ifCond .eq 7, 3) := by decide +kernel
theorem dX10_findRings_132 : decode cX10_findRings 132 = .ok (.iconst 1, 1) := by decide +kernel
theorem dX10_findRings_133 : decode cX10_findRings 133 = .ok (.goto 4, 3) := by decide +kernel
theorem dX10_findRings_136 : decode cX10_findRings 136 = .ok (.iconst 0, 1) := by decide +kernel
theorem dX10_findRings_137 : decode cX10_findRings 137 = .ok (.ior, 1) := by decide +kernel
theorem dX10_findRings_138 : decode cX10_findRings 138 = .ok (.bastore, 1) := by decide +kernel
theorem dX10_findRings_139 : decode cX10_findRings 139 = .ok (.iinc 3 1, 3) := by decide +kernel
theorem dX10_findRings_142 : decode cX10_findRings 142 = .ok (.goto (-56), 3) := by decide +kernel
theorem dX10_findRings_145 : decode cX10_findRings 145 = .ok (.iinc 2 1, 3) := by decide +kernel
theorem dX10_findRings_148 : decode cX10_findRings 148 = .ok (.goto (-70), 3) := by decide +kernel
theorem dX10_findRings_151 : decode cX10_findRings 151 = .ok (.iinc 1 1, 3) := by decide +kernel
theorem dX10_findRings_154 : decode cX10_findRings 154 = .ok (.goto (-84), 3) := by decide +kernel
theorem dX10_findRings_157 : decode cX10_findRings 157 = .ok (.iconst 0, 1) := by decide +kernel
theorem dX10_findRings_158 : decode cX10_findRings 158 = .ok (.istore_n 1, 1) := by decide +kernel
theorem dX10_findRings_159 : decode cX10_findRings 159 = .ok (.iload_n 1, 1) := by decide +kernel
theorem dX10_findRings_160 : decode cX10_findRings 160 = .ok (.aload_n 0, 1) := by decide +kernel
theorem dX10_findRings_161 : decode cX10_findRings 161 = .ok (.getfield 147, 3) := by decide +kernel
theorem dX10_findRings_164 : decode cX10_findRings 164 = .ok (.if_icmp .ge 66, 3) := by decide +kernel
theorem dX10_findRings_167 : decode cX10_findRings 167 = .ok (.aload_n 0, 1) := by decide +kernel
theorem dX10_findRings_168 : decode cX10_findRings 168 = .ok (.iload_n 1, 1) := by decide +kernel
theorem dX10_findRings_169 : decode cX10_findRings 169 = .ok (.invokevirtual 163, 3) := by decide +kernel
theorem dX10_findRings_172 : decode cX10_findRings 172 = .ok (.ifCond .eq 52, 3) := by decide +kernel
theorem dX10_findRings_175 : decode cX10_findRings 175 = .ok (.aload_n 0, 1) := by decide +kernel
theorem dX10_findRings_176 : decode cX10_findRings 176 = .ok (.getfield 40, 3) := by decide +kernel
theorem dX10_findRings_179 : decode cX10_findRings 179 = .ok (.iload_n 1, 1) := by decide +kernel
theorem dX10_findRings_180 : decode cX10_findRings 180 = .ok (.iaload, 1) := by decide +kernel
theorem dX10_findRings_181 : decode cX10_findRings 181 = .ok (.aload_n 0, 1) := by decide +kernel
theorem dX10_findRings_182 : decode cX10_findRings 182 = .ok (.getfield 37, 3) := by decide +kernel
theorem dX10_findRings_185 : decode cX10_findRings 185 = .ok (.iload_n 1, 1) := by decide +kernel
theorem dX10_findRings_186 : decode cX10_findRings 186 = .ok (.iaload, 1) := by decide +kernel
theorem dX10_findRings_187 : decode cX10_findRings 187 = .ok (.if_icmp .eq 27, 3) := by decide +kernel
theorem dX10_findRings_190 : decode cX10_findRings 190 = .ok (.aload_n 0, 1) := by decide +kernel
theorem dX10_findRings_191 : decode cX10_findRings 191 = .ok (.getfield 52, 3) := by decide +kernel
theorem dX10_findRings_194 : decode cX10_findRings 194 = .ok (.bipush 26, 2) := by decide +kernel
theorem dX10_findRings_196 : decode cX10_findRings 196 = .ok (.aload_n 0, 1) := by decide +kernel
theorem dX10_findRings_197 : decode cX10_findRings 197 = .ok (.getfield 40, 3) := by decide +kernel
theorem dX10_findRings_200 : decode cX10_findRings 200 = .ok (.iload_n 1, 1) := by decide +kernel
theorem dX10_findRings_201 : decode cX10_findRings 201 = .ok (.iaload, 1) := by decide +kernel
theorem dX10_findRings_202 : decode cX10_findRings 202 = .ok (.imul, 1) := by decide +kernel
theorem dX10_findRings_203 : decode cX10_findRings 203 = .ok (.aload_n 0, 1) := by decide +kernel
theorem dX10_findRings_204 : decode cX10_findRings 204 = .ok (.getfield 37, 3) := by decide +kernel
theorem dX10_findRings_207 : decode cX10_findRings 207 = .ok (.iload_n 1, 1) := by decide +kernel
theorem dX10_findRings_208 : decode cX10_findRings 208 = .ok (.iaload, 1) := by decide +kernel
theorem dX10_findRings_209 : decode cX10_findRings 209 = .ok (.iadd, 1) := by decide +kernel
theorem dX10_findRings_210 : decode cX10_findRings 210 = .ok (.baload, 1) := by decide +kernel
theorem dX10_findRings_211 : decode cX10_findRings 211 = .ok (.ifCond .eq 13, 3) := by decide +kernel
theorem dX10_findRings_214 : decode cX10_findRings 214 = .ok (.aload_n 0, 1) := by decide +kernel
theorem dX10_findRings_215 : decode cX10_findRings 215 = .ok (.aload_n 0, 1) := by decide +kernel
theorem dX10_findRings_216 : decode cX10_findRings 216 = .ok (.getfield 49, 3) := by decide +kernel
theorem dX10_findRings_219 : decode cX10_findRings 219 = .ok (.iload_n 1, 1) := by decide +kernel
theorem dX10_findRings_220 : decode cX10_findRings 220 = .ok (.iaload, 1) := by decide +kernel
theorem dX10_findRings_221 : decode cX10_findRings 221 = .ok (.invokevirtual 143, 3) := by decide +kernel
theorem dX10_findRings_224 : decode cX10_findRings 224 = .ok (.iinc 1 1, 3) := by decide +kernel
theorem dX10_findRings_227 : decode cX10_findRings 227 = .ok (.goto (-68), 3) := by decide +kernel
theorem dX10_findRings_230 : decode cX10_findRings 230 = .ok (.return_, 1) := by decide +kernel
theorem dX10_grammar_0 : decode cX10_grammar 0 = .ok (.aload_n 0, 1) := by decide +kernel
theorem dX10_grammar_1 : decode cX10_grammar 1 = .ok (.iconst 0, 1) := by decide +kernel
theorem dX10_grammar_2 : decode cX10_grammar 2 = .ok (.putfield 106, 3) := by decide +kernel
theorem dX10_grammar_5 : decode cX10_grammar 5 = .ok (.aload_n 0, 1) := by decide +kernel
theorem dX10_grammar_6 : decode cX10_grammar 6 = .ok (.iconst 0, 1) := by decide +kernel
theorem dX10_grammar_7 : decode cX10_grammar 7 = .ok (.putfield 122, 3) := by decide +kernel
theorem dX10_grammar_10 : decode cX10_grammar 10 = .ok (.aload_n 0, 1) := by decide +kernel
theorem dX10_grammar_11 : decode cX10_grammar 11 = .ok (.iconst (-1), 1) := by decide +kernel
theorem dX10_grammar_12 : decode cX10_grammar 12 = .ok (.putfield 129, 3) := by decide +kernel
theorem dX10_grammar_15 : decode cX10_grammar 15 = .ok (.aload_n 0, 1) := by decide +kernel
theorem dX10_grammar_16 : decode cX10_grammar 16 = .ok (.iconst 0, 1) := by decide +kernel
theorem dX10_grammar_17 : decode cX10_grammar 17 = .ok (.putfield 147, 3) := by decide +kernel
theorem dX10_grammar_20 : decode cX10_grammar 20 = .ok (.aload_n 0, 1) := by decide +kernel
theorem dX10_grammar_21 : decode cX10_grammar 21 = .ok (.invokevirtual 150, 3) := by decide +kernel
theorem dX10_grammar_24 : decode cX10_grammar 24 = .ok (.aload_n 0, 1) := by decide +kernel
theorem dX10_grammar_25 : decode cX10_grammar 25 = .ok (.getfield 122, 3) := by decide +kernel
theorem dX10_grammar_28 : decode cX10_grammar 28 = .ok (.aload_n 0, 1) := by decide +kernel
theorem dX10_grammar_29 : decode cX10_grammar 29 = .ok (.getfield 117, 3) := by decide +kernel
theorem dX10_grammar_32 : decode cX10_grammar 32 = .ok (.if_icmp .ne 11, 3) := by decide +kernel
theorem dX10_grammar_35 : decode cX10_grammar 35 = .ok (.aload_n 0, 1) := by decide +kernel
theorem dX10_grammar_36 : decode cX10_grammar 36 = .ok (.aload_n 0, 1) := by decide +kernel
theorem dX10_grammar_37 : decode cX10_grammar 37 = .ok (.getfield 122, 3) := by decide +kernel
theorem dX10_grammar_40 : decode cX10_grammar 40 = .ok (.invokevirtual 143, 3) := by decide +kernel
theorem dX10_grammar_43 : decode cX10_grammar 43 = .ok (.aload_n 0, 1) := by decide +kernel
theorem dX10_grammar_44 : decode cX10_grammar 44 = .ok (.getfield 129, 3) := by decide +kernel
theorem dX10_grammar_47 : decode cX10_grammar 47 = .ok (.ifCond .ge 45, 3) := by decide +kernel
theorem dX10_grammar_50 : decode cX10_grammar 50 = .ok (.aload_n 0, 1) := by decide +kernel
theorem dX10_grammar_51 : decode cX10_grammar 51 = .ok (.getfield 122, 3) := by decide +kernel
theorem dX10_grammar_54 : decode cX10_grammar 54 = .ok (.aload_n 0, 1) := by decide +kernel
theorem dX10_grammar_55 : decode cX10_grammar 55 = .ok (.getfield 117, 3) := by decide +kernel
theorem dX10_grammar_58 : decode cX10_grammar 58 = .ok (.if_icmp .ge 34, 3) := by decide +kernel
theorem dX10_grammar_61 : decode cX10_grammar 61 = .ok (.aload_n 0, 1) := by decide +kernel
theorem dX10_grammar_62 : decode cX10_grammar 62 = .ok (.getfield 147, 3) := by decide +kernel
theorem dX10_grammar_65 : decode cX10_grammar 65 = .ok (.bipush 60, 2) := by decide +kernel
theorem dX10_grammar_67 : decode cX10_grammar 67 = .ok (.if_icmp .ne 14, 3) := by decide +kernel
theorem dX10_grammar_70 : decode cX10_grammar 70 = .ok (.aload_n 0, 1) := by decide +kernel
theorem dX10_grammar_71 : decode cX10_grammar 71 = .ok (.aload_n 0, 1) := by decide +kernel
theorem dX10_grammar_72 : decode cX10_grammar 72 = .ok (.getfield 122, 3) := by decide +kernel
theorem dX10_grammar_75 : decode cX10_grammar 75 = .ok (.invokevirtual 143, 3) := by decide +kernel
theorem dX10_grammar_78 : decode cX10_grammar 78 = .ok (.goto (-35), 3) := by decide +kernel
theorem dX10_grammar_81 : decode cX10_grammar 81 = .ok (.aload_n 0, 1) := by decide +kernel
theorem dX10_grammar_82 : decode cX10_grammar 82 = .ok (.invokevirtual 166, 3) := by decide +kernel
theorem dX10_grammar_85 : decode cX10_grammar 85 = .ok (.aload_n 0, 1) := by decide +kernel
theorem dX10_grammar_86 : decode cX10_grammar 86 = .ok (.invokevirtual 150, 3) := by decide +kernel
theorem dX10_grammar_89 : decode cX10_grammar 89 = .ok (.goto (-46), 3) := by decide +kernel
theorem dX10_grammar_92 : decode cX10_grammar 92 = .ok (.aload_n 0, 1) := by decide +kernel
theorem dX10_grammar_93 : decode cX10_grammar 93 = .ok (.getfield 129, 3) := by decide +kernel
theorem dX10_grammar_96 : decode cX10_grammar 96 = .ok (.ifCond .ge 7, 3) := by decide +kernel
theorem dX10_grammar_99 : decode cX10_grammar 99 = .ok (.aload_n 0, 1) := by decide +kernel
theorem dX10_grammar_100 : decode cX10_grammar 100 = .ok (.invokevirtual 169, 3) := by decide +kernel
theorem dX10_grammar_103 : decode cX10_grammar 103 = .ok (.aload_n 0, 1) := by decide +kernel
theorem dX10_grammar_104 : decode cX10_grammar 104 = .ok (.iconst 0, 1) := by decide +kernel
theorem dX10_grammar_105 : decode cX10_grammar 105 = .ok (.putfield 117, 3) := by decide +kernel
theorem dX10_grammar_108 : decode cX10_grammar 108 = .ok (.aload_n 0, 1) := by decide +kernel
theorem dX10_grammar_109 : decode cX10_grammar 109 = .ok (.getfield 129, 3) := by decide +kernel
theorem dX10_grammar_112 : decode cX10_grammar 112 = .ok (.ifCond .lt 11, 3) := by decide +kernel
theorem dX10_grammar_115 : decode cX10_grammar 115 = .ok (.bipush (-2), 2) := by decide +kernel
theorem dX10_grammar_117 : decode cX10_grammar 117 = .ok (.aload_n 0, 1) := by decide +kernel
theorem dX10_grammar_118 : decode cX10_grammar 118 = .ok (.getfield 129, 3) := by decide +kernel
theorem dX10_grammar_121 : decode cX10_grammar 121 = .ok (.isub, 1) := by decide +kernel
theorem dX10_grammar_122 : decode cX10_grammar 122 = .ok (.ireturn, 1) := by decide +kernel
theorem dX10_grammar_123 : decode cX10_grammar 123 = .ok (.aload_n 0, 1) := by decide +kernel
theorem dX10_grammar_124 : decode cX10_grammar 124 = .ok (.aload_n 0, 1) := by decide +kernel
theorem dX10_grammar_125 : decode cX10_grammar 125 = .ok (.getfield 147, 3) := by decide +kernel
theorem dX10_grammar_128 : decode cX10_grammar 128 = .ok (.putfield 172, 3) := by decide +kernel
theorem dX10_grammar_131 : decode cX10_grammar 131 = .ok (.iconst 0, 1) := by decide +kernel
theorem dX10_grammar_132 : decode cX10_grammar 132 = .ok (.istore_n 1, 1) := by decide +kernel
theorem dX10_grammar_133 : decode cX10_grammar 133 = .ok (.iload_n 1, 1) := by decide +kernel
theorem dX10_grammar_134 : decode cX10_grammar 134 = .ok (.aload_n 0, 1) := by decide +kernel
theorem dX10_grammar_135 : decode cX10_grammar 135 = .ok (.getfield 172, 3) := by decide +kernel
theorem dX10_grammar_138 : decode cX10_grammar 138 = .ok (.if_icmp .ge 57, 3) := by decide +kernel
theorem dX10_grammar_141 : decode cX10_grammar 141 = .ok (.aload_n 0, 1) := by decide +kernel
theorem dX10_grammar_142 : decode cX10_grammar 142 = .ok (.getfield 25, 3) := by decide +kernel
theorem dX10_grammar_145 : decode cX10_grammar 145 = .ok (.iload_n 1, 1) := by decide +kernel
theorem dX10_grammar_146 : decode cX10_grammar 146 = .ok (.aload_n 0, 1) := by decide +kernel
theorem dX10_grammar_147 : decode cX10_grammar 147 = .ok (.getfield 37, 3) := by decide +kernel
theorem dX10_grammar_150 : decode cX10_grammar 150 = .ok (.iload_n 1, 1) := by decide +kernel
theorem dX10_grammar_151 : decode cX10_grammar 151 = .ok (.iaload, 1) := by decide +kernel
theorem dX10_grammar_152 : decode cX10_grammar 152 = .ok (.iastore, 1) := by decide +kernel
theorem dX10_grammar_153 : decode cX10_grammar 153 = .ok (.aload_n 0, 1) := by decide +kernel
theorem dX10_grammar_154 : decode cX10_grammar 154 = .ok (.getfield 28, 3) := by decide +kernel
theorem dX10_grammar_157 : decode cX10_grammar 157 = .ok (.iload_n 1, 1) := by decide +kernel
theorem dX10_grammar_158 : decode cX10_grammar 158 = .ok (.aload_n 0, 1) := by decide +kernel
theorem dX10_grammar_159 : decode cX10_grammar 159 = .ok (.getfield 40, 3) := by decide +kernel
theorem dX10_grammar_162 : decode cX10_grammar 162 = .ok (.iload_n 1, 1) := by decide +kernel
theorem dX10_grammar_163 : decode cX10_grammar 163 = .ok (.iaload, 1) := by decide +kernel
theorem dX10_grammar_164 : decode cX10_grammar 164 = .ok (.iastore, 1) := by decide +kernel
theorem dX10_grammar_165 : decode cX10_grammar 165 = .ok (.aload_n 0, 1) := by decide +kernel
theorem dX10_grammar_166 : decode cX10_grammar 166 = .ok (.getfield 31, 3) := by decide +kernel
theorem dX10_grammar_169 : decode cX10_grammar 169 = .ok (.iload_n 1, 1) := by decide +kernel
theorem dX10_grammar_170 : decode cX10_grammar 170 = .ok (.aload_n 0, 1) := by decide +kernel
theorem dX10_grammar_171 : decode cX10_grammar 171 = .ok (.getfield 43, 3) := by decide +kernel
theorem dX10_grammar_174 : decode cX10_grammar 174 = .ok (.iload_n 1, 1) := by decide +kernel
theorem dX10_grammar_175 : decode cX10_grammar 175 = .ok (.iaload, 1) := by decide +kernel
theorem dX10_grammar_176 : decode cX10_grammar 176 = .ok (.iastore, 1) := by decide +kernel
theorem dX10_grammar_177 : decode cX10_grammar 177 = .ok (.aload_n 0, 1) := by decide +kernel
theorem dX10_grammar_178 : decode cX10_grammar 178 = .ok (.getfield 34, 3) := by decide +kernel
theorem dX10_grammar_181 : decode cX10_grammar 181 = .ok (.iload_n 1, 1) := by decide +kernel
theorem dX10_grammar_182 : decode cX10_grammar 182 = .ok (.aload_n 0, 1) := by decide +kernel
theorem dX10_grammar_183 : decode cX10_grammar 183 = .ok (.getfield 46, 3) := by decide +kernel
theorem dX10_grammar_186 : decode cX10_grammar 186 = .ok (.iload_n 1, 1) := by decide +kernel
theorem dX10_grammar_187 : decode cX10_grammar 187 = .ok (.iaload, 1) := by decide +kernel
theorem dX10_grammar_188 : decode cX10_grammar 188 = .ok (.iastore, 1) := by decide +kernel
theorem dX10_grammar_189 : decode cX10_grammar 189 = .ok (.iinc 1 1, 3) := by decide +kernel
theorem dX10_grammar_192 : decode cX10_grammar 192 = .ok (.goto (-59), 3) := by decide +kernel
theorem dX10_grammar_195 : decode cX10_grammar 195 = .ok (.aload_n 0, 1) := by decide +kernel
theorem dX10_grammar_196 : decode cX10_grammar 196 = .ok (.getfield 172, 3) := by decide +kernel
theorem dX10_grammar_199 : decode cX10_grammar 199 = .ok (.ireturn, 1) := by decide +kernel
theorem dX10_slot_0 : decode cX10_slot 0 = .ok (.aload_n 0, 1) := by decide +kernel
theorem dX10_slot_1 : decode cX10_slot 1 = .ok (.iconst 0, 1) := by decide +kernel
theorem dX10_slot_2 : decode cX10_slot 2 = .ok (.putfield 106, 3) := by decide +kernel
theorem dX10_slot_5 : decode cX10_slot 5 = .ok (.aload_n 0, 1) := by decide +kernel
theorem dX10_slot_6 : decode cX10_slot 6 = .ok (.getfield 175, 3) := by decide +kernel
theorem dX10_slot_9 : decode cX10_slot 9 = .ok (.bipush 24, 2) := by decide +kernel
theorem dX10_slot_11 : decode cX10_slot 11 = .ok (.if_icmp .eq 49, 3) := by decide +kernel
theorem dX10_slot_14 : decode cX10_slot 14 = .ok (.iload_n 1, 1) := by decide +kernel
theorem dX10_slot_15 : decode cX10_slot 15 = .ok (.iconst 1, 1) := by decide +kernel
theorem dX10_slot_16 : decode cX10_slot 16 = .ok (.if_icmp .lt 44, 3) := by decide +kernel
theorem dX10_slot_19 : decode cX10_slot 19 = .ok (.iload_n 1, 1) := by decide +kernel
theorem dX10_slot_20 : decode cX10_slot 20 = .ok (.sipush 4095, 3) := by decide +kernel
theorem dX10_slot_23 : decode cX10_slot 23 = .ok (.if_icmp .gt 37, 3) := by decide +kernel
theorem dX10_slot_26 : decode cX10_slot 26 = .ok (.iload_n 2, 1) := by decide +kernel
theorem dX10_slot_27 : decode cX10_slot 27 = .ok (.iconst (-1), 1) := by decide +kernel
theorem dX10_slot_28 : decode cX10_slot 28 = .ok (.if_icmp .eq 21, 3) := by decide +kernel
theorem dX10_slot_31 : decode cX10_slot 31 = .ok (.iload_n 2, 1) := by decide +kernel
theorem dX10_slot_32 : decode cX10_slot 32 = .ok (.ifCond .lt 28, 3) := by decide +kernel
theorem dX10_slot_35 : decode cX10_slot 35 = .ok (.iload_n 2, 1) := by decide +kernel
theorem dX10_slot_36 : decode cX10_slot 36 = .ok (.bipush 11, 2) := by decide +kernel
theorem dX10_slot_38 : decode cX10_slot 38 = .ok (.if_icmp .gt 22, 3) := by decide +kernel
theorem dX10_slot_41 : decode cX10_slot 41 = .ok (.iload_n 1, 1) := by decide +kernel
theorem dX10_slot_42 : decode cX10_slot 42 = .ok (.iload_n 2, 1) := by decide +kernel
theorem dX10_slot_43 : decode cX10_slot 43 = .ok (.ishr, 1) := by decide +kernel
theorem dX10_slot_44 : decode cX10_slot 44 = .ok (.iconst 1, 1) := by decide +kernel
theorem dX10_slot_45 : decode cX10_slot 45 = .ok (.iand, 1) := by decide +kernel
theorem dX10_slot_46 : decode cX10_slot 46 = .ok (.ifCond .eq 14, 3) := by decide +kernel
theorem dX10_slot_49 : decode cX10_slot 49 = .ok (.iload_n 3, 1) := by decide +kernel
theorem dX10_slot_50 : decode cX10_slot 50 = .ok (.iconst (-1), 1) := by decide +kernel
theorem dX10_slot_51 : decode cX10_slot 51 = .ok (.if_icmp .lt 9, 3) := by decide +kernel
theorem dX10_slot_54 : decode cX10_slot 54 = .ok (.iload_n 3, 1) := by decide +kernel
theorem dX10_slot_55 : decode cX10_slot 55 = .ok (.bipush 127, 2) := by decide +kernel
theorem dX10_slot_57 : decode cX10_slot 57 = .ok (.if_icmp .le 5, 3) := by decide +kernel
theorem dX10_slot_60 : decode cX10_slot 60 = .ok (.iconst (-1), 1) := by decide +kernel
theorem dX10_slot_61 : decode cX10_slot 61 = .ok (.ireturn, 1) := by decide +kernel
theorem dX10_slot_62 : decode cX10_slot 62 = .ok (.aload_n 0, 1) := by decide +kernel
theorem dX10_slot_63 : decode cX10_slot 63 = .ok (.getfield 16, 3) := by decide +kernel
theorem dX10_slot_66 : decode cX10_slot 66 = .ok (.aload_n 0, 1) := by decide +kernel
theorem dX10_slot_67 : decode cX10_slot 67 = .ok (.getfield 175, 3) := by decide +kernel
theorem dX10_slot_70 : decode cX10_slot 70 = .ok (.iload_n 1, 1) := by decide +kernel
theorem dX10_slot_71 : decode cX10_slot 71 = .ok (.iastore, 1) := by decide +kernel
theorem dX10_slot_72 : decode cX10_slot 72 = .ok (.aload_n 0, 1) := by decide +kernel
theorem dX10_slot_73 : decode cX10_slot 73 = .ok (.getfield 19, 3) := by decide +kernel
theorem dX10_slot_76 : decode cX10_slot 76 = .ok (.aload_n 0, 1) := by decide +kernel
theorem dX10_slot_77 : decode cX10_slot 77 = .ok (.getfield 175, 3) := by decide +kernel
theorem dX10_slot_80 : decode cX10_slot 80 = .ok (.iload_n 2, 1) := by decide +kernel
theorem dX10_slot_81 : decode cX10_slot 81 = .ok (.iastore, 1) := by decide +kernel
theorem dX10_slot_82 : decode cX10_slot 82 = .ok (.aload_n 0, 1) := by decide +kernel
theorem dX10_slot_83 : decode cX10_slot 83 = .ok (.getfield 22, 3) := by decide +kernel
theorem dX10_slot_86 : decode cX10_slot 86 = .ok (.aload_n 0, 1) := by decide +kernel
theorem dX10_slot_87 : decode cX10_slot 87 = .ok (.getfield 175, 3) := by decide +kernel
theorem dX10_slot_90 : decode cX10_slot 90 = .ok (.iload_n 3, 1) := by decide +kernel
theorem dX10_slot_91 : decode cX10_slot 91 = .ok (.iastore, 1) := by decide +kernel
theorem dX10_slot_92 : decode cX10_slot 92 = .ok (.aload_n 0, 1) := by decide +kernel
theorem dX10_slot_93 : decode cX10_slot 93 = .ok (.dup, 1) := by decide +kernel
theorem dX10_slot_94 : decode cX10_slot 94 = .ok (.getfield 175, 3) := by decide +kernel
theorem dX10_slot_97 : decode cX10_slot 97 = .ok (.iconst 1, 1) := by decide +kernel
theorem dX10_slot_98 : decode cX10_slot 98 = .ok (.iadd, 1) := by decide +kernel
theorem dX10_slot_99 : decode cX10_slot 99 = .ok (.putfield 175, 3) := by decide +kernel
theorem dX10_slot_102 : decode cX10_slot 102 = .ok (.aload_n 0, 1) := by decide +kernel
theorem dX10_slot_103 : decode cX10_slot 103 = .ok (.getfield 175, 3) := by decide +kernel
theorem dX10_slot_106 : decode cX10_slot 106 = .ok (.iconst 1, 1) := by decide +kernel
theorem dX10_slot_107 : decode cX10_slot 107 = .ok (.isub, 1) := by decide +kernel
theorem dX10_slot_108 : decode cX10_slot 108 = .ok (.ireturn, 1) := by decide +kernel
theorem dX10_clear_0 : decode cX10_clear 0 = .ok (.aload_n 0, 1) := by decide +kernel
theorem dX10_clear_1 : decode cX10_clear 1 = .ok (.iconst 0, 1) := by decide +kernel
theorem dX10_clear_2 : decode cX10_clear 2 = .ok (.putfield 106, 3) := by decide +kernel
theorem dX10_clear_5 : decode cX10_clear 5 = .ok (.aload_n 0, 1) := by decide +kernel
theorem dX10_clear_6 : decode cX10_clear 6 = .ok (.getfield 175, 3) := by decide +kernel
theorem dX10_clear_9 : decode cX10_clear 9 = .ok (.istore_n 1, 1) := by decide +kernel
theorem dX10_clear_10 : decode cX10_clear 10 = .ok (.aload_n 0, 1) := by decide +kernel
theorem dX10_clear_11 : decode cX10_clear 11 = .ok (.iconst 0, 1) := by decide +kernel
theorem dX10_clear_12 : decode cX10_clear 12 = .ok (.putfield 175, 3) := by decide +kernel
theorem dX10_clear_15 : decode cX10_clear 15 = .ok (.iload_n 1, 1) := by decide +kernel
theorem dX10_clear_16 : decode cX10_clear 16 = .ok (.ireturn, 1) := by decide +kernel
theorem dX10_shape_0 : decode cX10_shape 0 = .ok (.iload_n 0, 1) := by decide +kernel
theorem dX10_shape_1 : decode cX10_shape 1 = .ok (.tableswitch 78 0 7 #[47, 51, 55, 58, 62, 66, 70, 74], 47) := by decide +kernel
theorem dX10_shape_48 : decode cX10_shape 48 = .ok (.sipush 145, 3) := by decide +kernel
theorem dX10_shape_51 : decode cX10_shape 51 = .ok (.ireturn, 1) := by decide +kernel
theorem dX10_shape_52 : decode cX10_shape 52 = .ok (.sipush 137, 3) := by decide +kernel
theorem dX10_shape_55 : decode cX10_shape 55 = .ok (.ireturn, 1) := by decide +kernel
theorem dX10_shape_56 : decode cX10_shape 56 = .ok (.bipush 73, 2) := by decide +kernel
theorem dX10_shape_58 : decode cX10_shape 58 = .ok (.ireturn, 1) := by decide +kernel
theorem dX10_shape_59 : decode cX10_shape 59 = .ok (.sipush 273, 3) := by decide +kernel
theorem dX10_shape_62 : decode cX10_shape 62 = .ok (.ireturn, 1) := by decide +kernel
theorem dX10_shape_63 : decode cX10_shape 63 = .ok (.sipush 1169, 3) := by decide +kernel
theorem dX10_shape_66 : decode cX10_shape 66 = .ok (.ireturn, 1) := by decide +kernel
theorem dX10_shape_67 : decode cX10_shape 67 = .ok (.sipush 2193, 3) := by decide +kernel
theorem dX10_shape_70 : decode cX10_shape 70 = .ok (.ireturn, 1) := by decide +kernel
theorem dX10_shape_71 : decode cX10_shape 71 = .ok (.sipush 1161, 3) := by decide +kernel
theorem dX10_shape_74 : decode cX10_shape 74 = .ok (.ireturn, 1) := by decide +kernel
theorem dX10_shape_75 : decode cX10_shape 75 = .ok (.sipush 1097, 3) := by decide +kernel
theorem dX10_shape_78 : decode cX10_shape 78 = .ok (.ireturn, 1) := by decide +kernel
theorem dX10_shape_79 : decode cX10_shape 79 = .ok (.sipush 585, 3) := by decide +kernel
theorem dX10_shape_82 : decode cX10_shape 82 = .ok (.ireturn, 1) := by decide +kernel
theorem dX10_classes_0 : decode cX10_classes 0 = .ok (.iload_n 1, 1) := by decide +kernel
theorem dX10_classes_1 : decode cX10_classes 1 = .ok (.invokestatic 178, 3) := by decide +kernel
theorem dX10_classes_4 : decode cX10_classes 4 = .ok (.iload_n 0, 1) := by decide +kernel
theorem dX10_classes_5 : decode cX10_classes 5 = .ok (.ishl, 1) := by decide +kernel
theorem dX10_classes_6 : decode cX10_classes 6 = .ok (.istore_n 2, 1) := by decide +kernel
theorem dX10_classes_7 : decode cX10_classes 7 = .ok (.iload_n 2, 1) := by decide +kernel
theorem dX10_classes_8 : decode cX10_classes 8 = .ok (.iload_n 2, 1) := by decide +kernel
theorem dX10_classes_9 : decode cX10_classes 9 = .ok (.bipush 12, 2) := by decide +kernel
theorem dX10_classes_11 : decode cX10_classes 11 = .ok (.ishr, 1) := by decide +kernel
theorem dX10_classes_12 : decode cX10_classes 12 = .ok (.ior, 1) := by decide +kernel
theorem dX10_classes_13 : decode cX10_classes 13 = .ok (.sipush 4095, 3) := by decide +kernel
theorem dX10_classes_16 : decode cX10_classes 16 = .ok (.iand, 1) := by decide +kernel
theorem dX10_classes_17 : decode cX10_classes 17 = .ok (.ireturn, 1) := by decide +kernel
theorem dX10_many_0 : decode cX10_many 0 = .ok (.iconst 0, 1) := by decide +kernel
theorem dX10_many_1 : decode cX10_many 1 = .ok (.istore_n 1, 1) := by decide +kernel
theorem dX10_many_2 : decode cX10_many 2 = .ok (.iload_n 0, 1) := by decide +kernel
theorem dX10_many_3 : decode cX10_many 3 = .ok (.istore_n 2, 1) := by decide +kernel
theorem dX10_many_4 : decode cX10_many 4 = .ok (.iload_n 2, 1) := by decide +kernel
theorem dX10_many_5 : decode cX10_many 5 = .ok (.ifCond .le 16, 3) := by decide +kernel
theorem dX10_many_8 : decode cX10_many 8 = .ok (.iload_n 1, 1) := by decide +kernel
theorem dX10_many_9 : decode cX10_many 9 = .ok (.iload_n 2, 1) := by decide +kernel
theorem dX10_many_10 : decode cX10_many 10 = .ok (.iconst 1, 1) := by decide +kernel
theorem dX10_many_11 : decode cX10_many 11 = .ok (.iand, 1) := by decide +kernel
theorem dX10_many_12 : decode cX10_many 12 = .ok (.iadd, 1) := by decide +kernel
theorem dX10_many_13 : decode cX10_many 13 = .ok (.istore_n 1, 1) := by decide +kernel
theorem dX10_many_14 : decode cX10_many 14 = .ok (.iload_n 2, 1) := by decide +kernel
theorem dX10_many_15 : decode cX10_many 15 = .ok (.iconst 1, 1) := by decide +kernel
theorem dX10_many_16 : decode cX10_many 16 = .ok (.ishr, 1) := by decide +kernel
theorem dX10_many_17 : decode cX10_many 17 = .ok (.istore_n 2, 1) := by decide +kernel
theorem dX10_many_18 : decode cX10_many 18 = .ok (.goto (-14), 3) := by decide +kernel
theorem dX10_many_21 : decode cX10_many 21 = .ok (.iload_n 1, 1) := by decide +kernel
theorem dX10_many_22 : decode cX10_many 22 = .ok (.ireturn, 1) := by decide +kernel
theorem dX10_fits_0 : decode cX10_fits 0 = .ok (.iload_n 2, 1) := by decide +kernel
theorem dX10_fits_1 : decode cX10_fits 1 = .ok (.iload_n 3, 1) := by decide +kernel
theorem dX10_fits_2 : decode cX10_fits 2 = .ok (.invokestatic 181, 3) := by decide +kernel
theorem dX10_fits_5 : decode cX10_fits 5 = .ok (.istore 4, 2) := by decide +kernel
theorem dX10_fits_7 : decode cX10_fits 7 = .ok (.iload 4, 2) := by decide +kernel
theorem dX10_fits_9 : decode cX10_fits 9 = .ok (.aload_n 0, 1) := by decide +kernel
theorem dX10_fits_10 : decode cX10_fits 10 = .ok (.getfield 16, 3) := by decide +kernel
theorem dX10_fits_13 : decode cX10_fits 13 = .ok (.iload_n 1, 1) := by decide +kernel
theorem dX10_fits_14 : decode cX10_fits 14 = .ok (.iaload, 1) := by decide +kernel
theorem dX10_fits_15 : decode cX10_fits 15 = .ok (.iand, 1) := by decide +kernel
theorem dX10_fits_16 : decode cX10_fits 16 = .ok (.invokestatic 185, 3) := by decide +kernel
theorem dX10_fits_19 : decode cX10_fits 19 = .ok (.istore 5, 2) := by decide +kernel
theorem dX10_fits_21 : decode cX10_fits 21 = .ok (.iload 5, 2) := by decide +kernel
theorem dX10_fits_23 : decode cX10_fits 23 = .ok (.iconst 2, 1) := by decide +kernel
theorem dX10_fits_24 : decode cX10_fits 24 = .ok (.if_icmp .ge 5, 3) := by decide +kernel
theorem dX10_fits_27 : decode cX10_fits 27 = .ok (.iconst (-1), 1) := by decide +kernel
theorem dX10_fits_28 : decode cX10_fits 28 = .ok (.ireturn, 1) := by decide +kernel
theorem dX10_fits_29 : decode cX10_fits 29 = .ok (.aload_n 0, 1) := by decide +kernel
theorem dX10_fits_30 : decode cX10_fits 30 = .ok (.getfield 19, 3) := by decide +kernel
theorem dX10_fits_33 : decode cX10_fits 33 = .ok (.iload_n 1, 1) := by decide +kernel
theorem dX10_fits_34 : decode cX10_fits 34 = .ok (.iaload, 1) := by decide +kernel
theorem dX10_fits_35 : decode cX10_fits 35 = .ok (.istore 6, 2) := by decide +kernel
theorem dX10_fits_37 : decode cX10_fits 37 = .ok (.iload 6, 2) := by decide +kernel
theorem dX10_fits_39 : decode cX10_fits 39 = .ok (.iconst (-1), 1) := by decide +kernel
theorem dX10_fits_40 : decode cX10_fits 40 = .ok (.if_icmp .eq 9, 3) := by decide +kernel
theorem dX10_fits_43 : decode cX10_fits 43 = .ok (.iload 6, 2) := by decide +kernel
theorem dX10_fits_45 : decode cX10_fits 45 = .ok (.iload_n 2, 1) := by decide +kernel
theorem dX10_fits_46 : decode cX10_fits 46 = .ok (.if_icmp .ne 7, 3) := by decide +kernel
theorem dX10_fits_49 : decode cX10_fits 49 = .ok (.iconst 0, 1) := by decide +kernel
theorem dX10_fits_50 : decode cX10_fits 50 = .ok (.goto 29, 3) := by decide +kernel
theorem dX10_fits_53 : decode cX10_fits 53 = .ok (.iload 4, 2) := by decide +kernel
theorem dX10_fits_55 : decode cX10_fits 55 = .ok (.iload 6, 2) := by decide +kernel
theorem dX10_fits_57 : decode cX10_fits 57 = .ok (.ishr, 1) := by decide +kernel
theorem dX10_fits_58 : decode cX10_fits 58 = .ok (.iconst 1, 1) := by decide +kernel
theorem dX10_fits_59 : decode cX10_fits 59 = .ok (.iand, 1) := by decide +kernel
theorem dX10_fits_60 : decode cX10_fits 60 = .ok (.iconst 1, 1) := by decide +kernel
theorem dX10_fits_61 : decode cX10_fits 61 = .ok (.if_icmp .ne 12, 3) := by decide +kernel
theorem dX10_fits_64 : decode cX10_fits 64 = .ok (.aload_n 0, 1) := by decide +kernel
theorem dX10_fits_65 : decode cX10_fits 65 = .ok (.getfield 7, 3) := by decide +kernel
theorem dX10_fits_68 : decode cX10_fits 68 = .ok (.iconst 2, 1) := by decide +kernel
theorem dX10_fits_69 : decode cX10_fits 69 = .ok (.iaload, 1) := by decide +kernel
theorem dX10_fits_70 : decode cX10_fits 70 = .ok (.goto 9, 3) := by decide +kernel
theorem dX10_fits_73 : decode cX10_fits 73 = .ok (.aload_n 0, 1) := by decide +kernel
theorem dX10_fits_74 : decode cX10_fits 74 = .ok (.getfield 7, 3) := by decide +kernel
theorem dX10_fits_77 : decode cX10_fits 77 = .ok (.iconst 3, 1) := by decide +kernel
theorem dX10_fits_78 : decode cX10_fits 78 = .ok (.iaload, 1) := by decide +kernel
theorem dX10_fits_79 : decode cX10_fits 79 = .ok (.istore 7, 2) := by decide +kernel
theorem dX10_fits_81 : decode cX10_fits 81 = .ok (.aload_n 0, 1) := by decide +kernel
theorem dX10_fits_82 : decode cX10_fits 82 = .ok (.getfield 7, 3) := by decide +kernel
theorem dX10_fits_85 : decode cX10_fits 85 = .ok (.iconst 0, 1) := by decide +kernel
theorem dX10_fits_86 : decode cX10_fits 86 = .ok (.iaload, 1) := by decide +kernel
theorem dX10_fits_87 : decode cX10_fits 87 = .ok (.aload_n 0, 1) := by decide +kernel
theorem dX10_fits_88 : decode cX10_fits 88 = .ok (.getfield 16, 3) := by decide +kernel
theorem dX10_fits_91 : decode cX10_fits 91 = .ok (.iload_n 1, 1) := by decide +kernel
theorem dX10_fits_92 : decode cX10_fits 92 = .ok (.iaload, 1) := by decide +kernel
theorem dX10_fits_93 : decode cX10_fits 93 = .ok (.iload 4, 2) := by decide +kernel
theorem dX10_fits_95 : decode cX10_fits 95 = .ok (.iconst (-1), 1) := by decide +kernel
theorem dX10_fits_96 : decode cX10_fits 96 = .ok (.ixor, 1) := by decide +kernel
theorem dX10_fits_97 : decode cX10_fits 97 = .ok (.iand, 1) := by decide +kernel
theorem dX10_fits_98 : decode cX10_fits 98 = .ok (.invokestatic 185, 3) := by decide +kernel
theorem dX10_fits_101 : decode cX10_fits 101 = .ok (.imul, 1) := by decide +kernel
theorem dX10_fits_102 : decode cX10_fits 102 = .ok (.aload_n 0, 1) := by decide +kernel
theorem dX10_fits_103 : decode cX10_fits 103 = .ok (.getfield 7, 3) := by decide +kernel
theorem dX10_fits_106 : decode cX10_fits 106 = .ok (.iconst 1, 1) := by decide +kernel
theorem dX10_fits_107 : decode cX10_fits 107 = .ok (.iaload, 1) := by decide +kernel
theorem dX10_fits_108 : decode cX10_fits 108 = .ok (.iload 4, 2) := by decide +kernel
theorem dX10_fits_110 : decode cX10_fits 110 = .ok (.aload_n 0, 1) := by decide +kernel
theorem dX10_fits_111 : decode cX10_fits 111 = .ok (.getfield 16, 3) := by decide +kernel
theorem dX10_fits_114 : decode cX10_fits 114 = .ok (.iload_n 1, 1) := by decide +kernel
theorem dX10_fits_115 : decode cX10_fits 115 = .ok (.iaload, 1) := by decide +kernel
theorem dX10_fits_116 : decode cX10_fits 116 = .ok (.iconst (-1), 1) := by decide +kernel
theorem dX10_fits_117 : decode cX10_fits 117 = .ok (.ixor, 1) := by decide +kernel
theorem dX10_fits_118 : decode cX10_fits 118 = .ok (.iand, 1) := by decide +kernel
theorem dX10_fits_119 : decode cX10_fits 119 = .ok (.invokestatic 185, 3) := by decide +kernel
theorem dX10_fits_122 : decode cX10_fits 122 = .ok (.imul, 1) := by decide +kernel
theorem dX10_fits_123 : decode cX10_fits 123 = .ok (.iadd, 1) := by decide +kernel
theorem dX10_fits_124 : decode cX10_fits 124 = .ok (.iload 7, 2) := by decide +kernel
theorem dX10_fits_126 : decode cX10_fits 126 = .ok (.iadd, 1) := by decide +kernel
theorem dX10_fits_127 : decode cX10_fits 127 = .ok (.ireturn, 1) := by decide +kernel
theorem dX10_fit_0 : decode cX10_fit 0 = .ok (.aload_n 0, 1) := by decide +kernel
theorem dX10_fit_1 : decode cX10_fit 1 = .ok (.iconst 0, 1) := by decide +kernel
theorem dX10_fit_2 : decode cX10_fit 2 = .ok (.putfield 106, 3) := by decide +kernel
theorem dX10_fit_5 : decode cX10_fit 5 = .ok (.iload_n 1, 1) := by decide +kernel
theorem dX10_fit_6 : decode cX10_fit 6 = .ok (.ifCond .lt 31, 3) := by decide +kernel
theorem dX10_fit_9 : decode cX10_fit 9 = .ok (.iload_n 1, 1) := by decide +kernel
theorem dX10_fit_10 : decode cX10_fit 10 = .ok (.aload_n 0, 1) := by decide +kernel
theorem dX10_fit_11 : decode cX10_fit 11 = .ok (.getfield 175, 3) := by decide +kernel
theorem dX10_fit_14 : decode cX10_fit 14 = .ok (.if_icmp .ge 23, 3) := by decide +kernel
theorem dX10_fit_17 : decode cX10_fit 17 = .ok (.iload_n 2, 1) := by decide +kernel
theorem dX10_fit_18 : decode cX10_fit 18 = .ok (.ifCond .lt 19, 3) := by decide +kernel
theorem dX10_fit_21 : decode cX10_fit 21 = .ok (.iload_n 2, 1) := by decide +kernel
theorem dX10_fit_22 : decode cX10_fit 22 = .ok (.bipush 11, 2) := by decide +kernel
theorem dX10_fit_24 : decode cX10_fit 24 = .ok (.if_icmp .gt 13, 3) := by decide +kernel
theorem dX10_fit_27 : decode cX10_fit 27 = .ok (.iload_n 3, 1) := by decide +kernel
theorem dX10_fit_28 : decode cX10_fit 28 = .ok (.ifCond .lt 9, 3) := by decide +kernel
theorem dX10_fit_31 : decode cX10_fit 31 = .ok (.iload_n 3, 1) := by decide +kernel
theorem dX10_fit_32 : decode cX10_fit 32 = .ok (.bipush 8, 2) := by decide +kernel
theorem dX10_fit_34 : decode cX10_fit 34 = .ok (.if_icmp .le 7, 3) := by decide +kernel
theorem dX10_fit_37 : decode cX10_fit 37 = .ok (.iconst (-1), 1) := by decide +kernel
theorem dX10_fit_38 : decode cX10_fit 38 = .ok (.goto 10, 3) := by decide +kernel
theorem dX10_fit_41 : decode cX10_fit 41 = .ok (.aload_n 0, 1) := by decide +kernel
theorem dX10_fit_42 : decode cX10_fit 42 = .ok (.iload_n 1, 1) := by decide +kernel
theorem dX10_fit_43 : decode cX10_fit 43 = .ok (.iload_n 2, 1) := by decide +kernel
theorem dX10_fit_44 : decode cX10_fit 44 = .ok (.iload_n 3, 1) := by decide +kernel
theorem dX10_fit_45 : decode cX10_fit 45 = .ok (.invokevirtual 188, 3) := by decide +kernel
theorem dX10_fit_48 : decode cX10_fit 48 = .ok (.ireturn, 1) := by decide +kernel
theorem dX10_best_0 : decode cX10_best 0 = .ok (.aload_n 0, 1) := by decide +kernel
theorem dX10_best_1 : decode cX10_best 1 = .ok (.iconst 0, 1) := by decide +kernel
theorem dX10_best_2 : decode cX10_best 2 = .ok (.putfield 106, 3) := by decide +kernel
theorem dX10_best_5 : decode cX10_best 5 = .ok (.iconst (-1), 1) := by decide +kernel
theorem dX10_best_6 : decode cX10_best 6 = .ok (.istore_n 2, 1) := by decide +kernel
theorem dX10_best_7 : decode cX10_best 7 = .ok (.iconst (-1), 1) := by decide +kernel
theorem dX10_best_8 : decode cX10_best 8 = .ok (.istore_n 3, 1) := by decide +kernel
theorem dX10_best_9 : decode cX10_best 9 = .ok (.iconst 0, 1) := by decide +kernel
theorem dX10_best_10 : decode cX10_best 10 = .ok (.istore 4, 2) := by decide +kernel
theorem dX10_best_12 : decode cX10_best 12 = .ok (.iload 4, 2) := by decide +kernel
theorem dX10_best_14 : decode cX10_best 14 = .ok (.bipush 108, 2) := by decide +kernel
theorem dX10_best_16 : decode cX10_best 16 = .ok (.if_icmp .ge 59, 3) := by decide +kernel
theorem dX10_best_19 : decode cX10_best 19 = .ok (.iload_n 1, 1) := by decide +kernel
theorem dX10_best_20 : decode cX10_best 20 = .ok (.ifCond .lt 55, 3) := by decide +kernel
theorem dX10_best_23 : decode cX10_best 23 = .ok (.iload_n 1, 1) := by decide +kernel
theorem dX10_best_24 : decode cX10_best 24 = .ok (.aload_n 0, 1) := by decide +kernel
theorem dX10_best_25 : decode cX10_best 25 = .ok (.getfield 175, 3) := by decide +kernel
theorem dX10_best_28 : decode cX10_best 28 = .ok (.if_icmp .ge 47, 3) := by decide +kernel
theorem dX10_best_31 : decode cX10_best 31 = .ok (.aload_n 0, 1) := by decide +kernel
theorem dX10_best_32 : decode cX10_best 32 = .ok (.iload_n 1, 1) := by decide +kernel
theorem dX10_best_33 : decode cX10_best 33 = .ok (.iload 4, 2) := by decide +kernel
theorem dX10_best_35 : decode cX10_best 35 = .ok (.bipush 12, 2) := by decide +kernel
theorem dX10_best_37 : decode cX10_best 37 = .ok (.irem, 1) := by decide +kernel
theorem dX10_best_38 : decode cX10_best 38 = .ok (.iload 4, 2) := by decide +kernel
theorem dX10_best_40 : decode cX10_best 40 = .ok (.bipush 12, 2) := by decide +kernel
theorem dX10_best_42 : decode cX10_best 42 = .ok (.idiv, 1) := by decide +kernel
theorem dX10_best_43 : decode cX10_best 43 = .ok (.invokevirtual 188, 3) := by decide +kernel
theorem dX10_best_46 : decode cX10_best 46 = .ok (.istore 5, 2) := by decide +kernel
theorem dX10_best_48 : decode cX10_best 48 = .ok (.iload 5, 2) := by decide +kernel
theorem dX10_best_50 : decode cX10_best 50 = .ok (.ifCond .lt 19, 3) := by decide +kernel
theorem dX10_best_53 : decode cX10_best 53 = .ok (.iload_n 3, 1) := by decide +kernel
theorem dX10_best_54 : decode cX10_best 54 = .ok (.ifCond .lt 9, 3) := by decide +kernel
theorem dX10_best_57 : decode cX10_best 57 = .ok (.iload 5, 2) := by decide +kernel
theorem dX10_best_59 : decode cX10_best 59 = .ok (.iload_n 2, 1) := by decide +kernel
theorem dX10_best_60 : decode cX10_best 60 = .ok (.if_icmp .ge 9, 3) := by decide +kernel
theorem dX10_best_63 : decode cX10_best 63 = .ok (.iload 5, 2) := by decide +kernel
theorem dX10_best_65 : decode cX10_best 65 = .ok (.istore_n 2, 1) := by decide +kernel
theorem dX10_best_66 : decode cX10_best 66 = .ok (.iload 4, 2) := by decide +kernel
theorem dX10_best_68 : decode cX10_best 68 = .ok (.istore_n 3, 1) := by decide +kernel
theorem dX10_best_69 : decode cX10_best 69 = .ok (.iinc 4 1, 3) := by decide +kernel
theorem dX10_best_72 : decode cX10_best 72 = .ok (.goto (-60), 3) := by decide +kernel
theorem dX10_best_75 : decode cX10_best 75 = .ok (.iload_n 3, 1) := by decide +kernel
theorem dX10_best_76 : decode cX10_best 76 = .ok (.ireturn, 1) := by decide +kernel
theorem dX10_degree_0 : decode cX10_degree 0 = .ok (.iload_n 1, 1) := by decide +kernel
theorem dX10_degree_1 : decode cX10_degree 1 = .ok (.tableswitch 76 1 6 #[39, 41, 43, 56, 58, 61], 39) := by decide +kernel
theorem dX10_degree_40 : decode cX10_degree 40 = .ok (.iconst 0, 1) := by decide +kernel
theorem dX10_degree_41 : decode cX10_degree 41 = .ok (.ireturn, 1) := by decide +kernel
theorem dX10_degree_42 : decode cX10_degree 42 = .ok (.iconst 2, 1) := by decide +kernel
theorem dX10_degree_43 : decode cX10_degree 43 = .ok (.ireturn, 1) := by decide +kernel
theorem dX10_degree_44 : decode cX10_degree 44 = .ok (.aload_n 0, 1) := by decide +kernel
theorem dX10_degree_45 : decode cX10_degree 45 = .ok (.getfield 113, 3) := by decide +kernel
theorem dX10_degree_48 : decode cX10_degree 48 = .ok (.ifCond .eq 7, 3) := by decide +kernel
theorem dX10_degree_51 : decode cX10_degree 51 = .ok (.iconst 3, 1) := by decide +kernel
theorem dX10_degree_52 : decode cX10_degree 52 = .ok (.goto 4, 3) := by decide +kernel
theorem dX10_degree_55 : decode cX10_degree 55 = .ok (.iconst 4, 1) := by decide +kernel
theorem dX10_degree_56 : decode cX10_degree 56 = .ok (.ireturn, 1) := by decide +kernel
theorem dX10_degree_57 : decode cX10_degree 57 = .ok (.iconst 5, 1) := by decide +kernel
theorem dX10_degree_58 : decode cX10_degree 58 = .ok (.ireturn, 1) := by decide +kernel
theorem dX10_degree_59 : decode cX10_degree 59 = .ok (.bipush 7, 2) := by decide +kernel
theorem dX10_degree_61 : decode cX10_degree 61 = .ok (.ireturn, 1) := by decide +kernel
theorem dX10_degree_62 : decode cX10_degree 62 = .ok (.aload_n 0, 1) := by decide +kernel
theorem dX10_degree_63 : decode cX10_degree 63 = .ok (.getfield 113, 3) := by decide +kernel
theorem dX10_degree_66 : decode cX10_degree 66 = .ok (.ifCond .eq 8, 3) := by decide +kernel
theorem dX10_degree_69 : decode cX10_degree 69 = .ok (.bipush 8, 2) := by decide +kernel
theorem dX10_degree_71 : decode cX10_degree 71 = .ok (.goto 5, 3) := by decide +kernel
theorem dX10_degree_74 : decode cX10_degree 74 = .ok (.bipush 9, 2) := by decide +kernel
theorem dX10_degree_76 : decode cX10_degree 76 = .ok (.ireturn, 1) := by decide +kernel
theorem dX10_degree_77 : decode cX10_degree 77 = .ok (.aload_n 0, 1) := by decide +kernel
theorem dX10_degree_78 : decode cX10_degree 78 = .ok (.getfield 113, 3) := by decide +kernel
theorem dX10_degree_81 : decode cX10_degree 81 = .ok (.ifCond .eq 8, 3) := by decide +kernel
theorem dX10_degree_84 : decode cX10_degree 84 = .ok (.bipush 10, 2) := by decide +kernel
theorem dX10_degree_86 : decode cX10_degree 86 = .ok (.goto 5, 3) := by decide +kernel
theorem dX10_degree_89 : decode cX10_degree 89 = .ok (.bipush 11, 2) := by decide +kernel
theorem dX10_degree_91 : decode cX10_degree 91 = .ok (.ireturn, 1) := by decide +kernel
theorem dX10_readSymbols_0 : decode cX10_readSymbols 0 = .ok (.bipush 10, 2) := by decide +kernel
theorem dX10_readSymbols_2 : decode cX10_readSymbols 2 = .ok (.istore_n 1, 1) := by decide +kernel
theorem dX10_readSymbols_3 : decode cX10_readSymbols 3 = .ok (.iload_n 1, 1) := by decide +kernel
theorem dX10_readSymbols_4 : decode cX10_readSymbols 4 = .ok (.bipush 80, 2) := by decide +kernel
theorem dX10_readSymbols_6 : decode cX10_readSymbols 6 = .ok (.if_icmp .ge 164, 3) := by decide +kernel
theorem dX10_readSymbols_9 : decode cX10_readSymbols 9 = .ok (.iconst 0, 1) := by decide +kernel
theorem dX10_readSymbols_10 : decode cX10_readSymbols 10 = .ok (.istore_n 2, 1) := by decide +kernel
theorem dX10_readSymbols_11 : decode cX10_readSymbols 11 = .ok (.iload_n 2, 1) := by decide +kernel
theorem dX10_readSymbols_12 : decode cX10_readSymbols 12 = .ok (.aload_n 0, 1) := by decide +kernel
theorem dX10_readSymbols_13 : decode cX10_readSymbols 13 = .ok (.getfield 192, 3) := by decide +kernel
theorem dX10_readSymbols_16 : decode cX10_readSymbols 16 = .ok (.if_icmp .ge 148, 3) := by decide +kernel
theorem dX10_readSymbols_19 : decode cX10_readSymbols 19 = .ok (.aload_n 0, 1) := by decide +kernel
theorem dX10_readSymbols_20 : decode cX10_readSymbols 20 = .ok (.getfield 110, 3) := by decide +kernel
theorem dX10_readSymbols_23 : decode cX10_readSymbols 23 = .ok (.aload_n 0, 1) := by decide +kernel
theorem dX10_readSymbols_24 : decode cX10_readSymbols 24 = .ok (.iload_n 1, 1) := by decide +kernel
theorem dX10_readSymbols_25 : decode cX10_readSymbols 25 = .ok (.bipush 10, 2) := by decide +kernel
theorem dX10_readSymbols_27 : decode cX10_readSymbols 27 = .ok (.idiv, 1) := by decide +kernel
theorem dX10_readSymbols_28 : decode cX10_readSymbols 28 = .ok (.invokevirtual 195, 3) := by decide +kernel
theorem dX10_readSymbols_31 : decode cX10_readSymbols 31 = .ok (.iadd, 1) := by decide +kernel
theorem dX10_readSymbols_32 : decode cX10_readSymbols 32 = .ok (.bipush 12, 2) := by decide +kernel
theorem dX10_readSymbols_34 : decode cX10_readSymbols 34 = .ok (.irem, 1) := by decide +kernel
theorem dX10_readSymbols_35 : decode cX10_readSymbols 35 = .ok (.istore_n 3, 1) := by decide +kernel
theorem dX10_readSymbols_36 : decode cX10_readSymbols 36 = .ok (.bipush 24, 2) := by decide +kernel
theorem dX10_readSymbols_38 : decode cX10_readSymbols 38 = .ok (.iload_n 1, 1) := by decide +kernel
theorem dX10_readSymbols_39 : decode cX10_readSymbols 39 = .ok (.imul, 1) := by decide +kernel
theorem dX10_readSymbols_40 : decode cX10_readSymbols 40 = .ok (.iload_n 2, 1) := by decide +kernel
theorem dX10_readSymbols_41 : decode cX10_readSymbols 41 = .ok (.iadd, 1) := by decide +kernel
theorem dX10_readSymbols_42 : decode cX10_readSymbols 42 = .ok (.istore 4, 2) := by decide +kernel
theorem dX10_readSymbols_44 : decode cX10_readSymbols 44 = .ok (.aload_n 0, 1) := by decide +kernel
theorem dX10_readSymbols_45 : decode cX10_readSymbols 45 = .ok (.getfield 71, 3) := by decide +kernel
theorem dX10_readSymbols_48 : decode cX10_readSymbols 48 = .ok (.iload 4, 2) := by decide +kernel
theorem dX10_readSymbols_50 : decode cX10_readSymbols 50 = .ok (.iconst (-1), 1) := by decide +kernel
theorem dX10_readSymbols_51 : decode cX10_readSymbols 51 = .ok (.iastore, 1) := by decide +kernel
theorem dX10_readSymbols_52 : decode cX10_readSymbols 52 = .ok (.aload_n 0, 1) := by decide +kernel
theorem dX10_readSymbols_53 : decode cX10_readSymbols 53 = .ok (.getfield 74, 3) := by decide +kernel
theorem dX10_readSymbols_56 : decode cX10_readSymbols 56 = .ok (.iload 4, 2) := by decide +kernel
theorem dX10_readSymbols_58 : decode cX10_readSymbols 58 = .ok (.iconst 0, 1) := by decide +kernel
theorem dX10_readSymbols_59 : decode cX10_readSymbols 59 = .ok (.iastore, 1) := by decide +kernel
theorem dX10_readSymbols_60 : decode cX10_readSymbols 60 = .ok (.iconst 0, 1) := by decide +kernel
theorem dX10_readSymbols_61 : decode cX10_readSymbols 61 = .ok (.istore 5, 2) := by decide +kernel
theorem dX10_readSymbols_63 : decode cX10_readSymbols 63 = .ok (.iload 5, 2) := by decide +kernel
theorem dX10_readSymbols_65 : decode cX10_readSymbols 65 = .ok (.bipush 9, 2) := by decide +kernel
theorem dX10_readSymbols_67 : decode cX10_readSymbols 67 = .ok (.if_icmp .ge 91, 3) := by decide +kernel
theorem dX10_readSymbols_70 : decode cX10_readSymbols 70 = .ok (.iload_n 1, 1) := by decide +kernel
theorem dX10_readSymbols_71 : decode cX10_readSymbols 71 = .ok (.bipush 10, 2) := by decide +kernel
theorem dX10_readSymbols_73 : decode cX10_readSymbols 73 = .ok (.irem, 1) := by decide +kernel
theorem dX10_readSymbols_74 : decode cX10_readSymbols 74 = .ok (.ifCond .eq 14, 3) := by decide +kernel
theorem dX10_readSymbols_77 : decode cX10_readSymbols 77 = .ok (.iload_n 1, 1) := by decide +kernel
theorem dX10_readSymbols_78 : decode cX10_readSymbols 78 = .ok (.bipush 10, 2) := by decide +kernel
theorem dX10_readSymbols_80 : decode cX10_readSymbols 80 = .ok (.irem, 1) := by decide +kernel
theorem dX10_readSymbols_81 : decode cX10_readSymbols 81 = .ok (.iload 5, 2) := by decide +kernel
theorem dX10_readSymbols_83 : decode cX10_readSymbols 83 = .ok (.iconst 1, 1) := by decide +kernel
theorem dX10_readSymbols_84 : decode cX10_readSymbols 84 = .ok (.iadd, 1) := by decide +kernel
theorem dX10_readSymbols_85 : decode cX10_readSymbols 85 = .ok (.if_icmp .ne 14, 3) := by decide +kernel
theorem dX10_readSymbols_88 : decode cX10_readSymbols 88 = .ok (.aload_n 0, 1) := by decide +kernel
theorem dX10_readSymbols_89 : decode cX10_readSymbols 89 = .ok (.iload_n 2, 1) := by decide +kernel
theorem dX10_readSymbols_90 : decode cX10_readSymbols 90 = .ok (.iload_n 3, 1) := by decide +kernel
theorem dX10_readSymbols_91 : decode cX10_readSymbols 91 = .ok (.iload 5, 2) := by decide +kernel
theorem dX10_readSymbols_93 : decode cX10_readSymbols 93 = .ok (.invokevirtual 188, 3) := by decide +kernel
theorem dX10_readSymbols_96 : decode cX10_readSymbols 96 = .ok (.goto 4, 3) := by decide +kernel
theorem dX10_readSymbols_99 : decode cX10_readSymbols 99 = .ok (.iconst (-1), 1) := by decide +kernel
theorem dX10_readSymbols_100 : decode cX10_readSymbols 100 = .ok (.istore 6, 2) := by decide +kernel
theorem dX10_readSymbols_102 : decode cX10_readSymbols 102 = .ok (.iload 6, 2) := by decide +kernel
theorem dX10_readSymbols_104 : decode cX10_readSymbols 104 = .ok (.ifCond .lt 48, 3) := by decide +kernel
theorem dX10_readSymbols_107 : decode cX10_readSymbols 107 = .ok (.aload_n 0, 1) := by decide +kernel
theorem dX10_readSymbols_108 : decode cX10_readSymbols 108 = .ok (.getfield 71, 3) := by decide +kernel
theorem dX10_readSymbols_111 : decode cX10_readSymbols 111 = .ok (.iload 4, 2) := by decide +kernel
theorem dX10_readSymbols_113 : decode cX10_readSymbols 113 = .ok (.iaload, 1) := by decide +kernel
theorem dX10_readSymbols_114 : decode cX10_readSymbols 114 = .ok (.ifCond .lt 15, 3) := by decide +kernel
theorem dX10_readSymbols_117 : decode cX10_readSymbols 117 = .ok (.iload 6, 2) := by decide +kernel
theorem dX10_readSymbols_119 : decode cX10_readSymbols 119 = .ok (.aload_n 0, 1) := by decide +kernel
theorem dX10_readSymbols_120 : decode cX10_readSymbols 120 = .ok (.getfield 74, 3) := by decide +kernel
theorem dX10_readSymbols_123 : decode cX10_readSymbols 123 = .ok (.iload 4, 2) := by decide +kernel
theorem dX10_readSymbols_125 : decode cX10_readSymbols 125 = .ok (.iaload, 1) := by decide +kernel
theorem dX10_readSymbols_126 : decode cX10_readSymbols 126 = .ok (.if_icmp .ge 26, 3) := by decide +kernel
theorem dX10_readSymbols_129 : decode cX10_readSymbols 129 = .ok (.aload_n 0, 1) := by decide +kernel
theorem dX10_readSymbols_130 : decode cX10_readSymbols 130 = .ok (.getfield 71, 3) := by decide +kernel
theorem dX10_readSymbols_133 : decode cX10_readSymbols 133 = .ok (.iload 4, 2) := by decide +kernel
theorem dX10_readSymbols_135 : decode cX10_readSymbols 135 = .ok (.bipush 12, 2) := by decide +kernel
theorem dX10_readSymbols_137 : decode cX10_readSymbols 137 = .ok (.iload 5, 2) := by decide +kernel
theorem dX10_readSymbols_139 : decode cX10_readSymbols 139 = .ok (.imul, 1) := by decide +kernel
theorem dX10_readSymbols_140 : decode cX10_readSymbols 140 = .ok (.iload_n 3, 1) := by decide +kernel
theorem dX10_readSymbols_141 : decode cX10_readSymbols 141 = .ok (.iadd, 1) := by decide +kernel
theorem dX10_readSymbols_142 : decode cX10_readSymbols 142 = .ok (.iastore, 1) := by decide +kernel
theorem dX10_readSymbols_143 : decode cX10_readSymbols 143 = .ok (.aload_n 0, 1) := by decide +kernel
theorem dX10_readSymbols_144 : decode cX10_readSymbols 144 = .ok (.getfield 74, 3) := by decide +kernel
theorem dX10_readSymbols_147 : decode cX10_readSymbols 147 = .ok (.iload 4, 2) := by decide +kernel
theorem dX10_readSymbols_149 : decode cX10_readSymbols 149 = .ok (.iload 6, 2) := by decide +kernel
theorem dX10_readSymbols_151 : decode cX10_readSymbols 151 = .ok (.iastore, 1) := by decide +kernel
theorem dX10_readSymbols_152 : decode cX10_readSymbols 152 = .ok (.iinc 5 1, 3) := by decide +kernel
theorem dX10_readSymbols_155 : decode cX10_readSymbols 155 = .ok (.goto (-92), 3) := by decide +kernel
theorem dX10_readSymbols_158 : decode cX10_readSymbols 158 = .ok (.iinc 2 1, 3) := by decide +kernel
theorem dX10_readSymbols_161 : decode cX10_readSymbols 161 = .ok (.goto (-150), 3) := by decide +kernel
theorem dX10_readSymbols_164 : decode cX10_readSymbols 164 = .ok (.iinc 1 1, 3) := by decide +kernel
theorem dX10_readSymbols_167 : decode cX10_readSymbols 167 = .ok (.goto (-164), 3) := by decide +kernel
theorem dX10_readSymbols_170 : decode cX10_readSymbols 170 = .ok (.return_, 1) := by decide +kernel
theorem dX10_cellOf_0 : decode cX10_cellOf 0 = .ok (.sipush 300, 3) := by decide +kernel
theorem dX10_cellOf_3 : decode cX10_cellOf 3 = .ok (.iload_n 0, 1) := by decide +kernel
theorem dX10_cellOf_4 : decode cX10_cellOf 4 = .ok (.imul, 1) := by decide +kernel
theorem dX10_cellOf_5 : decode cX10_cellOf 5 = .ok (.iload_n 2, 1) := by decide +kernel
theorem dX10_cellOf_6 : decode cX10_cellOf 6 = .ok (.iload_n 2, 1) := by decide +kernel
theorem dX10_cellOf_7 : decode cX10_cellOf 7 = .ok (.iconst 1, 1) := by decide +kernel
theorem dX10_cellOf_8 : decode cX10_cellOf 8 = .ok (.iadd, 1) := by decide +kernel
theorem dX10_cellOf_9 : decode cX10_cellOf 9 = .ok (.imul, 1) := by decide +kernel
theorem dX10_cellOf_10 : decode cX10_cellOf 10 = .ok (.iconst 2, 1) := by decide +kernel
theorem dX10_cellOf_11 : decode cX10_cellOf 11 = .ok (.idiv, 1) := by decide +kernel
theorem dX10_cellOf_12 : decode cX10_cellOf 12 = .ok (.iadd, 1) := by decide +kernel
theorem dX10_cellOf_13 : decode cX10_cellOf 13 = .ok (.iload_n 1, 1) := by decide +kernel
theorem dX10_cellOf_14 : decode cX10_cellOf 14 = .ok (.iadd, 1) := by decide +kernel
theorem dX10_cellOf_15 : decode cX10_cellOf 15 = .ok (.ireturn, 1) := by decide +kernel
theorem dX10_itemSize_0 : decode cX10_itemSize 0 = .ok (.iload_n 1, 1) := by decide +kernel
theorem dX10_itemSize_1 : decode cX10_itemSize 1 = .ok (.bipush 100, 2) := by decide +kernel
theorem dX10_itemSize_3 : decode cX10_itemSize 3 = .ok (.if_icmp .ge 15, 3) := by decide +kernel
theorem dX10_itemSize_6 : decode cX10_itemSize 6 = .ok (.aload_n 0, 1) := by decide +kernel
theorem dX10_itemSize_7 : decode cX10_itemSize 7 = .ok (.getfield 77, 3) := by decide +kernel
theorem dX10_itemSize_10 : decode cX10_itemSize 10 = .ok (.iload_n 1, 1) := by decide +kernel
theorem dX10_itemSize_11 : decode cX10_itemSize 11 = .ok (.iload_n 2, 1) := by decide +kernel
theorem dX10_itemSize_12 : decode cX10_itemSize 12 = .ok (.iload_n 3, 1) := by decide +kernel
theorem dX10_itemSize_13 : decode cX10_itemSize 13 = .ok (.invokestatic 198, 3) := by decide +kernel
theorem dX10_itemSize_16 : decode cX10_itemSize 16 = .ok (.iaload, 1) := by decide +kernel
theorem dX10_itemSize_17 : decode cX10_itemSize 17 = .ok (.ireturn, 1) := by decide +kernel
theorem dX10_itemSize_18 : decode cX10_itemSize 18 = .ok (.iload_n 2, 1) := by decide +kernel
theorem dX10_itemSize_19 : decode cX10_itemSize 19 = .ok (.iload_n 3, 1) := by decide +kernel
theorem dX10_itemSize_20 : decode cX10_itemSize 20 = .ok (.if_icmp .ne 24, 3) := by decide +kernel
theorem dX10_itemSize_23 : decode cX10_itemSize 23 = .ok (.aload_n 0, 1) := by decide +kernel
theorem dX10_itemSize_24 : decode cX10_itemSize 24 = .ok (.getfield 71, 3) := by decide +kernel
theorem dX10_itemSize_27 : decode cX10_itemSize 27 = .ok (.bipush 24, 2) := by decide +kernel
theorem dX10_itemSize_29 : decode cX10_itemSize 29 = .ok (.iload_n 1, 1) := by decide +kernel
theorem dX10_itemSize_30 : decode cX10_itemSize 30 = .ok (.bipush 100, 2) := by decide +kernel
theorem dX10_itemSize_32 : decode cX10_itemSize 32 = .ok (.isub, 1) := by decide +kernel
theorem dX10_itemSize_33 : decode cX10_itemSize 33 = .ok (.imul, 1) := by decide +kernel
theorem dX10_itemSize_34 : decode cX10_itemSize 34 = .ok (.iload_n 2, 1) := by decide +kernel
theorem dX10_itemSize_35 : decode cX10_itemSize 35 = .ok (.iadd, 1) := by decide +kernel
theorem dX10_itemSize_36 : decode cX10_itemSize 36 = .ok (.iaload, 1) := by decide +kernel
theorem dX10_itemSize_37 : decode cX10_itemSize 37 = .ok (.ifCond .lt 7, 3) := by decide +kernel
theorem dX10_itemSize_40 : decode cX10_itemSize 40 = .ok (.iconst 1, 1) := by decide +kernel
theorem dX10_itemSize_41 : decode cX10_itemSize 41 = .ok (.goto 4, 3) := by decide +kernel
theorem dX10_itemSize_44 : decode cX10_itemSize 44 = .ok (.iconst 0, 1) := by decide +kernel
theorem dX10_itemSize_45 : decode cX10_itemSize 45 = .ok (.ireturn, 1) := by decide +kernel
theorem dX10_itemCount_0 : decode cX10_itemCount 0 = .ok (.iload_n 1, 1) := by decide +kernel
theorem dX10_itemCount_1 : decode cX10_itemCount 1 = .ok (.bipush 100, 2) := by decide +kernel
theorem dX10_itemCount_3 : decode cX10_itemCount 3 = .ok (.if_icmp .ge 17, 3) := by decide +kernel
theorem dX10_itemCount_6 : decode cX10_itemCount 6 = .ok (.aload_n 0, 1) := by decide +kernel
theorem dX10_itemCount_7 : decode cX10_itemCount 7 = .ok (.getfield 80, 3) := by decide +kernel
theorem dX10_itemCount_10 : decode cX10_itemCount 10 = .ok (.iload_n 1, 1) := by decide +kernel
theorem dX10_itemCount_11 : decode cX10_itemCount 11 = .ok (.iload_n 2, 1) := by decide +kernel
theorem dX10_itemCount_12 : decode cX10_itemCount 12 = .ok (.iload_n 3, 1) := by decide +kernel
theorem dX10_itemCount_13 : decode cX10_itemCount 13 = .ok (.invokestatic 198, 3) := by decide +kernel
theorem dX10_itemCount_16 : decode cX10_itemCount 16 = .ok (.laload, 1) := by decide +kernel
theorem dX10_itemCount_17 : decode cX10_itemCount 17 = .ok (.goto 11, 3) := by decide +kernel
theorem dX10_itemCount_20 : decode cX10_itemCount 20 = .ok (.aload_n 0, 1) := by decide +kernel
theorem dX10_itemCount_21 : decode cX10_itemCount 21 = .ok (.iload_n 1, 1) := by decide +kernel
theorem dX10_itemCount_22 : decode cX10_itemCount 22 = .ok (.iload_n 2, 1) := by decide +kernel
theorem dX10_itemCount_23 : decode cX10_itemCount 23 = .ok (.iload_n 3, 1) := by decide +kernel
theorem dX10_itemCount_24 : decode cX10_itemCount 24 = .ok (.invokevirtual 201, 3) := by decide +kernel
theorem dX10_itemCount_27 : decode cX10_itemCount 27 = .ok (.i2l, 1) := by decide +kernel
theorem dX10_itemCount_28 : decode cX10_itemCount 28 = .ok (.lreturn, 1) := by decide +kernel
theorem dX10_itemCost_0 : decode cX10_itemCost 0 = .ok (.iload_n 1, 1) := by decide +kernel
theorem dX10_itemCost_1 : decode cX10_itemCost 1 = .ok (.bipush 100, 2) := by decide +kernel
theorem dX10_itemCost_3 : decode cX10_itemCost 3 = .ok (.if_icmp .ge 23, 3) := by decide +kernel
theorem dX10_itemCost_6 : decode cX10_itemCost 6 = .ok (.aload_n 0, 1) := by decide +kernel
theorem dX10_itemCost_7 : decode cX10_itemCost 7 = .ok (.getfield 85, 3) := by decide +kernel
theorem dX10_itemCost_10 : decode cX10_itemCost 10 = .ok (.bipush 30, 2) := by decide +kernel
theorem dX10_itemCost_12 : decode cX10_itemCost 12 = .ok (.iload_n 1, 1) := by decide +kernel
theorem dX10_itemCost_13 : decode cX10_itemCost 13 = .ok (.iload_n 2, 1) := by decide +kernel
theorem dX10_itemCost_14 : decode cX10_itemCost 14 = .ok (.iload_n 3, 1) := by decide +kernel
theorem dX10_itemCost_15 : decode cX10_itemCost 15 = .ok (.invokestatic 198, 3) := by decide +kernel
theorem dX10_itemCost_18 : decode cX10_itemCost 18 = .ok (.imul, 1) := by decide +kernel
theorem dX10_itemCost_19 : decode cX10_itemCost 19 = .ok (.iload 4, 2) := by decide +kernel
theorem dX10_itemCost_21 : decode cX10_itemCost 21 = .ok (.iadd, 1) := by decide +kernel
theorem dX10_itemCost_22 : decode cX10_itemCost 22 = .ok (.iaload, 1) := by decide +kernel
theorem dX10_itemCost_23 : decode cX10_itemCost 23 = .ok (.goto 17, 3) := by decide +kernel
theorem dX10_itemCost_26 : decode cX10_itemCost 26 = .ok (.aload_n 0, 1) := by decide +kernel
theorem dX10_itemCost_27 : decode cX10_itemCost 27 = .ok (.getfield 74, 3) := by decide +kernel
theorem dX10_itemCost_30 : decode cX10_itemCost 30 = .ok (.bipush 24, 2) := by decide +kernel
theorem dX10_itemCost_32 : decode cX10_itemCost 32 = .ok (.iload_n 1, 1) := by decide +kernel
theorem dX10_itemCost_33 : decode cX10_itemCost 33 = .ok (.bipush 100, 2) := by decide +kernel
theorem dX10_itemCost_35 : decode cX10_itemCost 35 = .ok (.isub, 1) := by decide +kernel
theorem dX10_itemCost_36 : decode cX10_itemCost 36 = .ok (.imul, 1) := by decide +kernel
theorem dX10_itemCost_37 : decode cX10_itemCost 37 = .ok (.iload_n 2, 1) := by decide +kernel
theorem dX10_itemCost_38 : decode cX10_itemCost 38 = .ok (.iadd, 1) := by decide +kernel
theorem dX10_itemCost_39 : decode cX10_itemCost 39 = .ok (.iaload, 1) := by decide +kernel
theorem dX10_itemCost_40 : decode cX10_itemCost 40 = .ok (.ireturn, 1) := by decide +kernel
theorem dX10_comes_0 : decode cX10_comes 0 = .ok (.aload_n 0, 1) := by decide +kernel
theorem dX10_comes_1 : decode cX10_comes 1 = .ok (.getfield 77, 3) := by decide +kernel
theorem dX10_comes_4 : decode cX10_comes 4 = .ok (.iload_n 1, 1) := by decide +kernel
theorem dX10_comes_5 : decode cX10_comes 5 = .ok (.iaload, 1) := by decide +kernel
theorem dX10_comes_6 : decode cX10_comes 6 = .ok (.istore 4, 2) := by decide +kernel
theorem dX10_comes_8 : decode cX10_comes 8 = .ok (.bipush 30, 2) := by decide +kernel
theorem dX10_comes_10 : decode cX10_comes 10 = .ok (.iload_n 1, 1) := by decide +kernel
theorem dX10_comes_11 : decode cX10_comes 11 = .ok (.imul, 1) := by decide +kernel
theorem dX10_comes_12 : decode cX10_comes 12 = .ok (.istore 5, 2) := by decide +kernel
theorem dX10_comes_14 : decode cX10_comes 14 = .ok (.iload 4, 2) := by decide +kernel
theorem dX10_comes_16 : decode cX10_comes 16 = .ok (.bipush 30, 2) := by decide +kernel
theorem dX10_comes_18 : decode cX10_comes 18 = .ok (.if_icmp .ne 53, 3) := by decide +kernel
theorem dX10_comes_21 : decode cX10_comes 21 = .ok (.aload_n 0, 1) := by decide +kernel
theorem dX10_comes_22 : decode cX10_comes 22 = .ok (.getfield 85, 3) := by decide +kernel
theorem dX10_comes_25 : decode cX10_comes 25 = .ok (.iload 5, 2) := by decide +kernel
theorem dX10_comes_27 : decode cX10_comes 27 = .ok (.iload 4, 2) := by decide +kernel
theorem dX10_comes_29 : decode cX10_comes 29 = .ok (.iadd, 1) := by decide +kernel
theorem dX10_comes_30 : decode cX10_comes 30 = .ok (.iconst 1, 1) := by decide +kernel
theorem dX10_comes_31 : decode cX10_comes 31 = .ok (.isub, 1) := by decide +kernel
theorem dX10_comes_32 : decode cX10_comes 32 = .ok (.iaload, 1) := by decide +kernel
theorem dX10_comes_33 : decode cX10_comes 33 = .ok (.iload_n 2, 1) := by decide +kernel
theorem dX10_comes_34 : decode cX10_comes 34 = .ok (.if_icmp .lt 35, 3) := by decide +kernel
theorem dX10_comes_37 : decode cX10_comes 37 = .ok (.aload_n 0, 1) := by decide +kernel
theorem dX10_comes_38 : decode cX10_comes 38 = .ok (.getfield 85, 3) := by decide +kernel
theorem dX10_comes_41 : decode cX10_comes 41 = .ok (.iload 5, 2) := by decide +kernel
theorem dX10_comes_43 : decode cX10_comes 43 = .ok (.iload 4, 2) := by decide +kernel
theorem dX10_comes_45 : decode cX10_comes 45 = .ok (.iadd, 1) := by decide +kernel
theorem dX10_comes_46 : decode cX10_comes 46 = .ok (.iconst 1, 1) := by decide +kernel
theorem dX10_comes_47 : decode cX10_comes 47 = .ok (.isub, 1) := by decide +kernel
theorem dX10_comes_48 : decode cX10_comes 48 = .ok (.iaload, 1) := by decide +kernel
theorem dX10_comes_49 : decode cX10_comes 49 = .ok (.iload_n 2, 1) := by decide +kernel
theorem dX10_comes_50 : decode cX10_comes 50 = .ok (.if_icmp .ne 21, 3) := by decide +kernel
theorem dX10_comes_53 : decode cX10_comes 53 = .ok (.aload_n 0, 1) := by decide +kernel
theorem dX10_comes_54 : decode cX10_comes 54 = .ok (.getfield 88, 3) := by decide +kernel
theorem dX10_comes_57 : decode cX10_comes 57 = .ok (.iload 5, 2) := by decide +kernel
theorem dX10_comes_59 : decode cX10_comes 59 = .ok (.iload 4, 2) := by decide +kernel
theorem dX10_comes_61 : decode cX10_comes 61 = .ok (.iadd, 1) := by decide +kernel
theorem dX10_comes_62 : decode cX10_comes 62 = .ok (.iconst 1, 1) := by decide +kernel
theorem dX10_comes_63 : decode cX10_comes 63 = .ok (.isub, 1) := by decide +kernel
theorem dX10_comes_64 : decode cX10_comes 64 = .ok (.iaload, 1) := by decide +kernel
theorem dX10_comes_65 : decode cX10_comes 65 = .ok (.iload_n 3, 1) := by decide +kernel
theorem dX10_comes_66 : decode cX10_comes 66 = .ok (.if_icmp .ge 5, 3) := by decide +kernel
theorem dX10_comes_69 : decode cX10_comes 69 = .ok (.iconst 0, 1) := by decide +kernel
theorem dX10_comes_70 : decode cX10_comes 70 = .ok (.ireturn, 1) := by decide +kernel
theorem dX10_comes_71 : decode cX10_comes 71 = .ok (.iload 4, 2) := by decide +kernel
theorem dX10_comes_73 : decode cX10_comes 73 = .ok (.bipush 30, 2) := by decide +kernel
theorem dX10_comes_75 : decode cX10_comes 75 = .ok (.if_icmp .ne 10, 3) := by decide +kernel
theorem dX10_comes_78 : decode cX10_comes 78 = .ok (.iload 4, 2) := by decide +kernel
theorem dX10_comes_80 : decode cX10_comes 80 = .ok (.iconst 1, 1) := by decide +kernel
theorem dX10_comes_81 : decode cX10_comes 81 = .ok (.isub, 1) := by decide +kernel
theorem dX10_comes_82 : decode cX10_comes 82 = .ok (.goto 5, 3) := by decide +kernel
theorem dX10_comes_85 : decode cX10_comes 85 = .ok (.iload 4, 2) := by decide +kernel
theorem dX10_comes_87 : decode cX10_comes 87 = .ok (.istore 6, 2) := by decide +kernel
theorem dX10_comes_89 : decode cX10_comes 89 = .ok (.iload 6, 2) := by decide +kernel
theorem dX10_comes_91 : decode cX10_comes 91 = .ok (.ifCond .le 101, 3) := by decide +kernel
theorem dX10_comes_94 : decode cX10_comes 94 = .ok (.aload_n 0, 1) := by decide +kernel
theorem dX10_comes_95 : decode cX10_comes 95 = .ok (.getfield 85, 3) := by decide +kernel
theorem dX10_comes_98 : decode cX10_comes 98 = .ok (.iload 5, 2) := by decide +kernel
theorem dX10_comes_100 : decode cX10_comes 100 = .ok (.iload 6, 2) := by decide +kernel
theorem dX10_comes_102 : decode cX10_comes 102 = .ok (.iadd, 1) := by decide +kernel
theorem dX10_comes_103 : decode cX10_comes 103 = .ok (.iconst 1, 1) := by decide +kernel
theorem dX10_comes_104 : decode cX10_comes 104 = .ok (.isub, 1) := by decide +kernel
theorem dX10_comes_105 : decode cX10_comes 105 = .ok (.iaload, 1) := by decide +kernel
theorem dX10_comes_106 : decode cX10_comes 106 = .ok (.iload_n 2, 1) := by decide +kernel
theorem dX10_comes_107 : decode cX10_comes 107 = .ok (.if_icmp .gt 35, 3) := by decide +kernel
theorem dX10_comes_110 : decode cX10_comes 110 = .ok (.aload_n 0, 1) := by decide +kernel
theorem dX10_comes_111 : decode cX10_comes 111 = .ok (.getfield 85, 3) := by decide +kernel
theorem dX10_comes_114 : decode cX10_comes 114 = .ok (.iload 5, 2) := by decide +kernel
theorem dX10_comes_116 : decode cX10_comes 116 = .ok (.iload 6, 2) := by decide +kernel
theorem dX10_comes_118 : decode cX10_comes 118 = .ok (.iadd, 1) := by decide +kernel
theorem dX10_comes_119 : decode cX10_comes 119 = .ok (.iconst 1, 1) := by decide +kernel
theorem dX10_comes_120 : decode cX10_comes 120 = .ok (.isub, 1) := by decide +kernel
theorem dX10_comes_121 : decode cX10_comes 121 = .ok (.iaload, 1) := by decide +kernel
theorem dX10_comes_122 : decode cX10_comes 122 = .ok (.iload_n 2, 1) := by decide +kernel
theorem dX10_comes_123 : decode cX10_comes 123 = .ok (.if_icmp .ne 69, 3) := by decide +kernel
theorem dX10_comes_126 : decode cX10_comes 126 = .ok (.aload_n 0, 1) := by decide +kernel
theorem dX10_comes_127 : decode cX10_comes 127 = .ok (.getfield 88, 3) := by decide +kernel
theorem dX10_comes_130 : decode cX10_comes 130 = .ok (.iload 5, 2) := by decide +kernel
theorem dX10_comes_132 : decode cX10_comes 132 = .ok (.iload 6, 2) := by decide +kernel
theorem dX10_comes_134 : decode cX10_comes 134 = .ok (.iadd, 1) := by decide +kernel
theorem dX10_comes_135 : decode cX10_comes 135 = .ok (.iconst 1, 1) := by decide +kernel
theorem dX10_comes_136 : decode cX10_comes 136 = .ok (.isub, 1) := by decide +kernel
theorem dX10_comes_137 : decode cX10_comes 137 = .ok (.iaload, 1) := by decide +kernel
theorem dX10_comes_138 : decode cX10_comes 138 = .ok (.iload_n 3, 1) := by decide +kernel
theorem dX10_comes_139 : decode cX10_comes 139 = .ok (.if_icmp .le 53, 3) := by decide +kernel
theorem dX10_comes_142 : decode cX10_comes 142 = .ok (.aload_n 0, 1) := by decide +kernel
theorem dX10_comes_143 : decode cX10_comes 143 = .ok (.getfield 85, 3) := by decide +kernel
theorem dX10_comes_146 : decode cX10_comes 146 = .ok (.iload 5, 2) := by decide +kernel
theorem dX10_comes_148 : decode cX10_comes 148 = .ok (.iload 6, 2) := by decide +kernel
theorem dX10_comes_150 : decode cX10_comes 150 = .ok (.iadd, 1) := by decide +kernel
theorem dX10_comes_151 : decode cX10_comes 151 = .ok (.aload_n 0, 1) := by decide +kernel
theorem dX10_comes_152 : decode cX10_comes 152 = .ok (.getfield 85, 3) := by decide +kernel
theorem dX10_comes_155 : decode cX10_comes 155 = .ok (.iload 5, 2) := by decide +kernel
theorem dX10_comes_157 : decode cX10_comes 157 = .ok (.iload 6, 2) := by decide +kernel
theorem dX10_comes_159 : decode cX10_comes 159 = .ok (.iadd, 1) := by decide +kernel
theorem dX10_comes_160 : decode cX10_comes 160 = .ok (.iconst 1, 1) := by decide +kernel
theorem dX10_comes_161 : decode cX10_comes 161 = .ok (.isub, 1) := by decide +kernel
theorem dX10_comes_162 : decode cX10_comes 162 = .ok (.iaload, 1) := by decide +kernel
theorem dX10_comes_163 : decode cX10_comes 163 = .ok (.iastore, 1) := by decide +kernel
theorem dX10_comes_164 : decode cX10_comes 164 = .ok (.aload_n 0, 1) := by decide +kernel
theorem dX10_comes_165 : decode cX10_comes 165 = .ok (.getfield 88, 3) := by decide +kernel
theorem dX10_comes_168 : decode cX10_comes 168 = .ok (.iload 5, 2) := by decide +kernel
theorem dX10_comes_170 : decode cX10_comes 170 = .ok (.iload 6, 2) := by decide +kernel
theorem dX10_comes_172 : decode cX10_comes 172 = .ok (.iadd, 1) := by decide +kernel
theorem dX10_comes_173 : decode cX10_comes 173 = .ok (.aload_n 0, 1) := by decide +kernel
theorem dX10_comes_174 : decode cX10_comes 174 = .ok (.getfield 88, 3) := by decide +kernel
theorem dX10_comes_177 : decode cX10_comes 177 = .ok (.iload 5, 2) := by decide +kernel
theorem dX10_comes_179 : decode cX10_comes 179 = .ok (.iload 6, 2) := by decide +kernel
theorem dX10_comes_181 : decode cX10_comes 181 = .ok (.iadd, 1) := by decide +kernel
theorem dX10_comes_182 : decode cX10_comes 182 = .ok (.iconst 1, 1) := by decide +kernel
theorem dX10_comes_183 : decode cX10_comes 183 = .ok (.isub, 1) := by decide +kernel
theorem dX10_comes_184 : decode cX10_comes 184 = .ok (.iaload, 1) := by decide +kernel
theorem dX10_comes_185 : decode cX10_comes 185 = .ok (.iastore, 1) := by decide +kernel
theorem dX10_comes_186 : decode cX10_comes 186 = .ok (.iinc 6 (-1), 3) := by decide +kernel
theorem dX10_comes_189 : decode cX10_comes 189 = .ok (.goto (-100), 3) := by decide +kernel
theorem dX10_comes_192 : decode cX10_comes 192 = .ok (.aload_n 0, 1) := by decide +kernel
theorem dX10_comes_193 : decode cX10_comes 193 = .ok (.getfield 85, 3) := by decide +kernel
theorem dX10_comes_196 : decode cX10_comes 196 = .ok (.iload 5, 2) := by decide +kernel
theorem dX10_comes_198 : decode cX10_comes 198 = .ok (.iload 6, 2) := by decide +kernel
theorem dX10_comes_200 : decode cX10_comes 200 = .ok (.iadd, 1) := by decide +kernel
theorem dX10_comes_201 : decode cX10_comes 201 = .ok (.iload_n 2, 1) := by decide +kernel
theorem dX10_comes_202 : decode cX10_comes 202 = .ok (.iastore, 1) := by decide +kernel
theorem dX10_comes_203 : decode cX10_comes 203 = .ok (.aload_n 0, 1) := by decide +kernel
theorem dX10_comes_204 : decode cX10_comes 204 = .ok (.getfield 88, 3) := by decide +kernel
theorem dX10_comes_207 : decode cX10_comes 207 = .ok (.iload 5, 2) := by decide +kernel
theorem dX10_comes_209 : decode cX10_comes 209 = .ok (.iload 6, 2) := by decide +kernel
theorem dX10_comes_211 : decode cX10_comes 211 = .ok (.iadd, 1) := by decide +kernel
theorem dX10_comes_212 : decode cX10_comes 212 = .ok (.iload_n 3, 1) := by decide +kernel
theorem dX10_comes_213 : decode cX10_comes 213 = .ok (.iastore, 1) := by decide +kernel
theorem dX10_comes_214 : decode cX10_comes 214 = .ok (.aload_n 0, 1) := by decide +kernel
theorem dX10_comes_215 : decode cX10_comes 215 = .ok (.getfield 77, 3) := by decide +kernel
theorem dX10_comes_218 : decode cX10_comes 218 = .ok (.iload_n 1, 1) := by decide +kernel
theorem dX10_comes_219 : decode cX10_comes 219 = .ok (.iload 4, 2) := by decide +kernel
theorem dX10_comes_221 : decode cX10_comes 221 = .ok (.bipush 30, 2) := by decide +kernel
theorem dX10_comes_223 : decode cX10_comes 223 = .ok (.if_icmp .ne 8, 3) := by decide +kernel
theorem dX10_comes_226 : decode cX10_comes 226 = .ok (.iload 4, 2) := by decide +kernel
theorem dX10_comes_228 : decode cX10_comes 228 = .ok (.goto 7, 3) := by decide +kernel
theorem dX10_comes_231 : decode cX10_comes 231 = .ok (.iload 4, 2) := by decide +kernel
theorem dX10_comes_233 : decode cX10_comes 233 = .ok (.iconst 1, 1) := by decide +kernel
theorem dX10_comes_234 : decode cX10_comes 234 = .ok (.iadd, 1) := by decide +kernel
theorem dX10_comes_235 : decode cX10_comes 235 = .ok (.iastore, 1) := by decide +kernel
theorem dX10_comes_236 : decode cX10_comes 236 = .ok (.iconst 1, 1) := by decide +kernel
theorem dX10_comes_237 : decode cX10_comes 237 = .ok (.ireturn, 1) := by decide +kernel
theorem dX10_one_0 : decode cX10_one 0 = .ok (.aload_n 0, 1) := by decide +kernel
theorem dX10_one_1 : decode cX10_one 1 = .ok (.aload_n 0, 1) := by decide +kernel
theorem dX10_one_2 : decode cX10_one 2 = .ok (.getfield 59, 3) := by decide +kernel
theorem dX10_one_5 : decode cX10_one 5 = .ok (.iload_n 2, 1) := by decide +kernel
theorem dX10_one_6 : decode cX10_one 6 = .ok (.iaload, 1) := by decide +kernel
theorem dX10_one_7 : decode cX10_one 7 = .ok (.iload_n 3, 1) := by decide +kernel
theorem dX10_one_8 : decode cX10_one 8 = .ok (.iload 4, 2) := by decide +kernel
theorem dX10_one_10 : decode cX10_one 10 = .ok (.invokevirtual 201, 3) := by decide +kernel
theorem dX10_one_13 : decode cX10_one 13 = .ok (.istore 5, 2) := by decide +kernel
theorem dX10_one_15 : decode cX10_one 15 = .ok (.aload_n 0, 1) := by decide +kernel
theorem dX10_one_16 : decode cX10_one 16 = .ok (.getfield 80, 3) := by decide +kernel
theorem dX10_one_19 : decode cX10_one 19 = .ok (.iload_n 1, 1) := by decide +kernel
theorem dX10_one_20 : decode cX10_one 20 = .ok (.dup2, 1) := by decide +kernel
theorem dX10_one_21 : decode cX10_one 21 = .ok (.laload, 1) := by decide +kernel
theorem dX10_one_22 : decode cX10_one 22 = .ok (.aload_n 0, 1) := by decide +kernel
theorem dX10_one_23 : decode cX10_one 23 = .ok (.aload_n 0, 1) := by decide +kernel
theorem dX10_one_24 : decode cX10_one 24 = .ok (.getfield 59, 3) := by decide +kernel
theorem dX10_one_27 : decode cX10_one 27 = .ok (.iload_n 2, 1) := by decide +kernel
theorem dX10_one_28 : decode cX10_one 28 = .ok (.iaload, 1) := by decide +kernel
theorem dX10_one_29 : decode cX10_one 29 = .ok (.iload_n 3, 1) := by decide +kernel
theorem dX10_one_30 : decode cX10_one 30 = .ok (.iload 4, 2) := by decide +kernel
theorem dX10_one_32 : decode cX10_one 32 = .ok (.invokevirtual 204, 3) := by decide +kernel
theorem dX10_one_35 : decode cX10_one 35 = .ok (.ladd, 1) := by decide +kernel
theorem dX10_one_36 : decode cX10_one 36 = .ok (.lastore, 1) := by decide +kernel
theorem dX10_one_37 : decode cX10_one 37 = .ok (.iconst 0, 1) := by decide +kernel
theorem dX10_one_38 : decode cX10_one 38 = .ok (.istore 6, 2) := by decide +kernel
theorem dX10_one_40 : decode cX10_one 40 = .ok (.iload 6, 2) := by decide +kernel
theorem dX10_one_42 : decode cX10_one 42 = .ok (.iload 5, 2) := by decide +kernel
theorem dX10_one_44 : decode cX10_one 44 = .ok (.if_icmp .ge 47, 3) := by decide +kernel
theorem dX10_one_47 : decode cX10_one 47 = .ok (.aload_n 0, 1) := by decide +kernel
theorem dX10_one_48 : decode cX10_one 48 = .ok (.iload_n 1, 1) := by decide +kernel
theorem dX10_one_49 : decode cX10_one 49 = .ok (.aload_n 0, 1) := by decide +kernel
theorem dX10_one_50 : decode cX10_one 50 = .ok (.getfield 65, 3) := by decide +kernel
theorem dX10_one_53 : decode cX10_one 53 = .ok (.iload_n 2, 1) := by decide +kernel
theorem dX10_one_54 : decode cX10_one 54 = .ok (.iaload, 1) := by decide +kernel
theorem dX10_one_55 : decode cX10_one 55 = .ok (.aload_n 0, 1) := by decide +kernel
theorem dX10_one_56 : decode cX10_one 56 = .ok (.aload_n 0, 1) := by decide +kernel
theorem dX10_one_57 : decode cX10_one 57 = .ok (.getfield 59, 3) := by decide +kernel
theorem dX10_one_60 : decode cX10_one 60 = .ok (.iload_n 2, 1) := by decide +kernel
theorem dX10_one_61 : decode cX10_one 61 = .ok (.iaload, 1) := by decide +kernel
theorem dX10_one_62 : decode cX10_one 62 = .ok (.iload_n 3, 1) := by decide +kernel
theorem dX10_one_63 : decode cX10_one 63 = .ok (.iload 4, 2) := by decide +kernel
theorem dX10_one_65 : decode cX10_one 65 = .ok (.iload 6, 2) := by decide +kernel
theorem dX10_one_67 : decode cX10_one 67 = .ok (.invokevirtual 208, 3) := by decide +kernel
theorem dX10_one_70 : decode cX10_one 70 = .ok (.iadd, 1) := by decide +kernel
theorem dX10_one_71 : decode cX10_one 71 = .ok (.iload_n 2, 1) := by decide +kernel
theorem dX10_one_72 : decode cX10_one 72 = .ok (.bipush 15, 2) := by decide +kernel
theorem dX10_one_74 : decode cX10_one 74 = .ok (.ishl, 1) := by decide +kernel
theorem dX10_one_75 : decode cX10_one 75 = .ok (.iload 6, 2) := by decide +kernel
theorem dX10_one_77 : decode cX10_one 77 = .ok (.iconst 5, 1) := by decide +kernel
theorem dX10_one_78 : decode cX10_one 78 = .ok (.ishl, 1) := by decide +kernel
theorem dX10_one_79 : decode cX10_one 79 = .ok (.iadd, 1) := by decide +kernel
theorem dX10_one_80 : decode cX10_one 80 = .ok (.invokevirtual 212, 3) := by decide +kernel
theorem dX10_one_83 : decode cX10_one 83 = .ok (.istore 7, 2) := by decide +kernel
theorem dX10_one_85 : decode cX10_one 85 = .ok (.iinc 6 1, 3) := by decide +kernel
theorem dX10_one_88 : decode cX10_one 88 = .ok (.goto (-48), 3) := by decide +kernel
theorem dX10_one_91 : decode cX10_one 91 = .ok (.return_, 1) := by decide +kernel
theorem dX10_two_0 : decode cX10_two 0 = .ok (.iconst 1, 1) := by decide +kernel
theorem dX10_two_1 : decode cX10_two 1 = .ok (.istore 5, 2) := by decide +kernel
theorem dX10_two_3 : decode cX10_two 3 = .ok (.iload 5, 2) := by decide +kernel
theorem dX10_two_5 : decode cX10_two 5 = .ok (.iload 4, 2) := by decide +kernel
theorem dX10_two_7 : decode cX10_two 7 = .ok (.iload_n 3, 1) := by decide +kernel
theorem dX10_two_8 : decode cX10_two 8 = .ok (.isub, 1) := by decide +kernel
theorem dX10_two_9 : decode cX10_two 9 = .ok (.if_icmp .gt 242, 3) := by decide +kernel
theorem dX10_two_12 : decode cX10_two 12 = .ok (.aload_n 0, 1) := by decide +kernel
theorem dX10_two_13 : decode cX10_two 13 = .ok (.aload_n 0, 1) := by decide +kernel
theorem dX10_two_14 : decode cX10_two 14 = .ok (.getfield 59, 3) := by decide +kernel
theorem dX10_two_17 : decode cX10_two 17 = .ok (.iload_n 2, 1) := by decide +kernel
theorem dX10_two_18 : decode cX10_two 18 = .ok (.iaload, 1) := by decide +kernel
theorem dX10_two_19 : decode cX10_two 19 = .ok (.iload_n 3, 1) := by decide +kernel
theorem dX10_two_20 : decode cX10_two 20 = .ok (.iload_n 3, 1) := by decide +kernel
theorem dX10_two_21 : decode cX10_two 21 = .ok (.iload 5, 2) := by decide +kernel
theorem dX10_two_23 : decode cX10_two 23 = .ok (.iadd, 1) := by decide +kernel
theorem dX10_two_24 : decode cX10_two 24 = .ok (.iconst 1, 1) := by decide +kernel
theorem dX10_two_25 : decode cX10_two 25 = .ok (.isub, 1) := by decide +kernel
theorem dX10_two_26 : decode cX10_two 26 = .ok (.invokevirtual 201, 3) := by decide +kernel
theorem dX10_two_29 : decode cX10_two 29 = .ok (.istore 6, 2) := by decide +kernel
theorem dX10_two_31 : decode cX10_two 31 = .ok (.aload_n 0, 1) := by decide +kernel
theorem dX10_two_32 : decode cX10_two 32 = .ok (.aload_n 0, 1) := by decide +kernel
theorem dX10_two_33 : decode cX10_two 33 = .ok (.getfield 62, 3) := by decide +kernel
theorem dX10_two_36 : decode cX10_two 36 = .ok (.iload_n 2, 1) := by decide +kernel
theorem dX10_two_37 : decode cX10_two 37 = .ok (.iaload, 1) := by decide +kernel
theorem dX10_two_38 : decode cX10_two 38 = .ok (.iload_n 3, 1) := by decide +kernel
theorem dX10_two_39 : decode cX10_two 39 = .ok (.iload 5, 2) := by decide +kernel
theorem dX10_two_41 : decode cX10_two 41 = .ok (.iadd, 1) := by decide +kernel
theorem dX10_two_42 : decode cX10_two 42 = .ok (.iload 4, 2) := by decide +kernel
theorem dX10_two_44 : decode cX10_two 44 = .ok (.invokevirtual 201, 3) := by decide +kernel
theorem dX10_two_47 : decode cX10_two 47 = .ok (.istore 7, 2) := by decide +kernel
theorem dX10_two_49 : decode cX10_two 49 = .ok (.aload_n 0, 1) := by decide +kernel
theorem dX10_two_50 : decode cX10_two 50 = .ok (.getfield 80, 3) := by decide +kernel
theorem dX10_two_53 : decode cX10_two 53 = .ok (.iload_n 1, 1) := by decide +kernel
theorem dX10_two_54 : decode cX10_two 54 = .ok (.dup2, 1) := by decide +kernel
theorem dX10_two_55 : decode cX10_two 55 = .ok (.laload, 1) := by decide +kernel
theorem dX10_two_56 : decode cX10_two 56 = .ok (.aload_n 0, 1) := by decide +kernel
theorem dX10_two_57 : decode cX10_two 57 = .ok (.aload_n 0, 1) := by decide +kernel
theorem dX10_two_58 : decode cX10_two 58 = .ok (.getfield 59, 3) := by decide +kernel
theorem dX10_two_61 : decode cX10_two 61 = .ok (.iload_n 2, 1) := by decide +kernel
theorem dX10_two_62 : decode cX10_two 62 = .ok (.iaload, 1) := by decide +kernel
theorem dX10_two_63 : decode cX10_two 63 = .ok (.iload_n 3, 1) := by decide +kernel
theorem dX10_two_64 : decode cX10_two 64 = .ok (.iload_n 3, 1) := by decide +kernel
theorem dX10_two_65 : decode cX10_two 65 = .ok (.iload 5, 2) := by decide +kernel
theorem dX10_two_67 : decode cX10_two 67 = .ok (.iadd, 1) := by decide +kernel
theorem dX10_two_68 : decode cX10_two 68 = .ok (.iconst 1, 1) := by decide +kernel
theorem dX10_two_69 : decode cX10_two 69 = .ok (.isub, 1) := by decide +kernel
theorem dX10_two_70 : decode cX10_two 70 = .ok (.invokevirtual 204, 3) := by decide +kernel
theorem dX10_two_73 : decode cX10_two 73 = .ok (.aload_n 0, 1) := by decide +kernel
theorem dX10_two_74 : decode cX10_two 74 = .ok (.aload_n 0, 1) := by decide +kernel
theorem dX10_two_75 : decode cX10_two 75 = .ok (.getfield 62, 3) := by decide +kernel
theorem dX10_two_78 : decode cX10_two 78 = .ok (.iload_n 2, 1) := by decide +kernel
theorem dX10_two_79 : decode cX10_two 79 = .ok (.iaload, 1) := by decide +kernel
theorem dX10_two_80 : decode cX10_two 80 = .ok (.iload_n 3, 1) := by decide +kernel
theorem dX10_two_81 : decode cX10_two 81 = .ok (.iload 5, 2) := by decide +kernel
theorem dX10_two_83 : decode cX10_two 83 = .ok (.iadd, 1) := by decide +kernel
theorem dX10_two_84 : decode cX10_two 84 = .ok (.iload 4, 2) := by decide +kernel
theorem dX10_two_86 : decode cX10_two 86 = .ok (.invokevirtual 204, 3) := by decide +kernel
theorem dX10_two_89 : decode cX10_two 89 = .ok (.lmul, 1) := by decide +kernel
theorem dX10_two_90 : decode cX10_two 90 = .ok (.ladd, 1) := by decide +kernel
theorem dX10_two_91 : decode cX10_two 91 = .ok (.lastore, 1) := by decide +kernel
theorem dX10_two_92 : decode cX10_two 92 = .ok (.iconst 1, 1) := by decide +kernel
theorem dX10_two_93 : decode cX10_two 93 = .ok (.istore 8, 2) := by decide +kernel
theorem dX10_two_95 : decode cX10_two 95 = .ok (.iconst 0, 1) := by decide +kernel
theorem dX10_two_96 : decode cX10_two 96 = .ok (.istore 9, 2) := by decide +kernel
theorem dX10_two_98 : decode cX10_two 98 = .ok (.iload 9, 2) := by decide +kernel
theorem dX10_two_100 : decode cX10_two 100 = .ok (.iload 6, 2) := by decide +kernel
theorem dX10_two_102 : decode cX10_two 102 = .ok (.if_icmp .ge 143, 3) := by decide +kernel
theorem dX10_two_105 : decode cX10_two 105 = .ok (.iload 8, 2) := by decide +kernel
theorem dX10_two_107 : decode cX10_two 107 = .ok (.ifCond .eq 138, 3) := by decide +kernel
theorem dX10_two_110 : decode cX10_two 110 = .ok (.iconst 1, 1) := by decide +kernel
theorem dX10_two_111 : decode cX10_two 111 = .ok (.istore 10, 2) := by decide +kernel
theorem dX10_two_113 : decode cX10_two 113 = .ok (.iconst 0, 1) := by decide +kernel
theorem dX10_two_114 : decode cX10_two 114 = .ok (.istore 11, 2) := by decide +kernel
theorem dX10_two_116 : decode cX10_two 116 = .ok (.iload 11, 2) := by decide +kernel
theorem dX10_two_118 : decode cX10_two 118 = .ok (.iload 7, 2) := by decide +kernel
theorem dX10_two_120 : decode cX10_two 120 = .ok (.if_icmp .ge 119, 3) := by decide +kernel
theorem dX10_two_123 : decode cX10_two 123 = .ok (.iload 10, 2) := by decide +kernel
theorem dX10_two_125 : decode cX10_two 125 = .ok (.ifCond .eq 114, 3) := by decide +kernel
theorem dX10_two_128 : decode cX10_two 128 = .ok (.iload 9, 2) := by decide +kernel
theorem dX10_two_130 : decode cX10_two 130 = .ok (.iconst 1, 1) := by decide +kernel
theorem dX10_two_131 : decode cX10_two 131 = .ok (.iadd, 1) := by decide +kernel
theorem dX10_two_132 : decode cX10_two 132 = .ok (.iload 11, 2) := by decide +kernel
theorem dX10_two_134 : decode cX10_two 134 = .ok (.iconst 1, 1) := by decide +kernel
theorem dX10_two_135 : decode cX10_two 135 = .ok (.iadd, 1) := by decide +kernel
theorem dX10_two_136 : decode cX10_two 136 = .ok (.imul, 1) := by decide +kernel
theorem dX10_two_137 : decode cX10_two 137 = .ok (.bipush 30, 2) := by decide +kernel
theorem dX10_two_139 : decode cX10_two 139 = .ok (.if_icmp .gt 100, 3) := by decide +kernel
theorem dX10_two_142 : decode cX10_two 142 = .ok (.aload_n 0, 1) := by decide +kernel
theorem dX10_two_143 : decode cX10_two 143 = .ok (.getfield 65, 3) := by decide +kernel
theorem dX10_two_146 : decode cX10_two 146 = .ok (.iload_n 2, 1) := by decide +kernel
theorem dX10_two_147 : decode cX10_two 147 = .ok (.iaload, 1) := by decide +kernel
theorem dX10_two_148 : decode cX10_two 148 = .ok (.aload_n 0, 1) := by decide +kernel
theorem dX10_two_149 : decode cX10_two 149 = .ok (.aload_n 0, 1) := by decide +kernel
theorem dX10_two_150 : decode cX10_two 150 = .ok (.getfield 59, 3) := by decide +kernel
theorem dX10_two_153 : decode cX10_two 153 = .ok (.iload_n 2, 1) := by decide +kernel
theorem dX10_two_154 : decode cX10_two 154 = .ok (.iaload, 1) := by decide +kernel
theorem dX10_two_155 : decode cX10_two 155 = .ok (.iload_n 3, 1) := by decide +kernel
theorem dX10_two_156 : decode cX10_two 156 = .ok (.iload_n 3, 1) := by decide +kernel
theorem dX10_two_157 : decode cX10_two 157 = .ok (.iload 5, 2) := by decide +kernel
theorem dX10_two_159 : decode cX10_two 159 = .ok (.iadd, 1) := by decide +kernel
theorem dX10_two_160 : decode cX10_two 160 = .ok (.iconst 1, 1) := by decide +kernel
theorem dX10_two_161 : decode cX10_two 161 = .ok (.isub, 1) := by decide +kernel
theorem dX10_two_162 : decode cX10_two 162 = .ok (.iload 9, 2) := by decide +kernel
theorem dX10_two_164 : decode cX10_two 164 = .ok (.invokevirtual 208, 3) := by decide +kernel
theorem dX10_two_167 : decode cX10_two 167 = .ok (.iadd, 1) := by decide +kernel
theorem dX10_two_168 : decode cX10_two 168 = .ok (.aload_n 0, 1) := by decide +kernel
theorem dX10_two_169 : decode cX10_two 169 = .ok (.aload_n 0, 1) := by decide +kernel
theorem dX10_two_170 : decode cX10_two 170 = .ok (.getfield 62, 3) := by decide +kernel
theorem dX10_two_173 : decode cX10_two 173 = .ok (.iload_n 2, 1) := by decide +kernel
theorem dX10_two_174 : decode cX10_two 174 = .ok (.iaload, 1) := by decide +kernel
theorem dX10_two_175 : decode cX10_two 175 = .ok (.iload_n 3, 1) := by decide +kernel
theorem dX10_two_176 : decode cX10_two 176 = .ok (.iload 5, 2) := by decide +kernel
theorem dX10_two_178 : decode cX10_two 178 = .ok (.iadd, 1) := by decide +kernel
theorem dX10_two_179 : decode cX10_two 179 = .ok (.iload 4, 2) := by decide +kernel
theorem dX10_two_181 : decode cX10_two 181 = .ok (.iload 11, 2) := by decide +kernel
theorem dX10_two_183 : decode cX10_two 183 = .ok (.invokevirtual 208, 3) := by decide +kernel
theorem dX10_two_186 : decode cX10_two 186 = .ok (.iadd, 1) := by decide +kernel
theorem dX10_two_187 : decode cX10_two 187 = .ok (.istore 12, 2) := by decide +kernel
theorem dX10_two_189 : decode cX10_two 189 = .ok (.aload_n 0, 1) := by decide +kernel
theorem dX10_two_190 : decode cX10_two 190 = .ok (.iload_n 1, 1) := by decide +kernel
theorem dX10_two_191 : decode cX10_two 191 = .ok (.iload 12, 2) := by decide +kernel
theorem dX10_two_193 : decode cX10_two 193 = .ok (.iload_n 2, 1) := by decide +kernel
theorem dX10_two_194 : decode cX10_two 194 = .ok (.bipush 15, 2) := by decide +kernel
theorem dX10_two_196 : decode cX10_two 196 = .ok (.ishl, 1) := by decide +kernel
theorem dX10_two_197 : decode cX10_two 197 = .ok (.iload 5, 2) := by decide +kernel
theorem dX10_two_199 : decode cX10_two 199 = .ok (.bipush 10, 2) := by decide +kernel
theorem dX10_two_201 : decode cX10_two 201 = .ok (.ishl, 1) := by decide +kernel
theorem dX10_two_202 : decode cX10_two 202 = .ok (.iadd, 1) := by decide +kernel
theorem dX10_two_203 : decode cX10_two 203 = .ok (.iload 9, 2) := by decide +kernel
theorem dX10_two_205 : decode cX10_two 205 = .ok (.iconst 5, 1) := by decide +kernel
theorem dX10_two_206 : decode cX10_two 206 = .ok (.ishl, 1) := by decide +kernel
theorem dX10_two_207 : decode cX10_two 207 = .ok (.iadd, 1) := by decide +kernel
theorem dX10_two_208 : decode cX10_two 208 = .ok (.iload 11, 2) := by decide +kernel
theorem dX10_two_210 : decode cX10_two 210 = .ok (.iadd, 1) := by decide +kernel
theorem dX10_two_211 : decode cX10_two 211 = .ok (.invokevirtual 212, 3) := by decide +kernel
theorem dX10_two_214 : decode cX10_two 214 = .ok (.istore 10, 2) := by decide +kernel
theorem dX10_two_216 : decode cX10_two 216 = .ok (.iload 10, 2) := by decide +kernel
theorem dX10_two_218 : decode cX10_two 218 = .ok (.ifCond .ne 8, 3) := by decide +kernel
theorem dX10_two_221 : decode cX10_two 221 = .ok (.iload 11, 2) := by decide +kernel
theorem dX10_two_223 : decode cX10_two 223 = .ok (.ifCond .le 7, 3) := by decide +kernel
theorem dX10_two_226 : decode cX10_two 226 = .ok (.iconst 1, 1) := by decide +kernel
theorem dX10_two_227 : decode cX10_two 227 = .ok (.goto 4, 3) := by decide +kernel
theorem dX10_two_230 : decode cX10_two 230 = .ok (.iconst 0, 1) := by decide +kernel
theorem dX10_two_231 : decode cX10_two 231 = .ok (.istore 8, 2) := by decide +kernel
theorem dX10_two_233 : decode cX10_two 233 = .ok (.iinc 11 1, 3) := by decide +kernel
theorem dX10_two_236 : decode cX10_two 236 = .ok (.goto (-120), 3) := by decide +kernel
theorem dX10_two_239 : decode cX10_two 239 = .ok (.iinc 9 1, 3) := by decide +kernel
theorem dX10_two_242 : decode cX10_two 242 = .ok (.goto (-144), 3) := by decide +kernel
theorem dX10_two_245 : decode cX10_two 245 = .ok (.iinc 5 1, 3) := by decide +kernel
theorem dX10_two_248 : decode cX10_two 248 = .ok (.goto (-245), 3) := by decide +kernel
theorem dX10_two_251 : decode cX10_two 251 = .ok (.return_, 1) := by decide +kernel
theorem dX10_order_0 : decode cX10_order 0 = .ok (.iconst 0, 1) := by decide +kernel
theorem dX10_order_1 : decode cX10_order 1 = .ok (.istore_n 1, 1) := by decide +kernel
theorem dX10_order_2 : decode cX10_order 2 = .ok (.iload_n 1, 1) := by decide +kernel
theorem dX10_order_3 : decode cX10_order 3 = .ok (.bipush 26, 2) := by decide +kernel
theorem dX10_order_5 : decode cX10_order 5 = .ok (.if_icmp .ge 16, 3) := by decide +kernel
theorem dX10_order_8 : decode cX10_order 8 = .ok (.aload_n 0, 1) := by decide +kernel
theorem dX10_order_9 : decode cX10_order 9 = .ok (.getfield 91, 3) := by decide +kernel
theorem dX10_order_12 : decode cX10_order 12 = .ok (.iload_n 1, 1) := by decide +kernel
theorem dX10_order_13 : decode cX10_order 13 = .ok (.iconst (-1), 1) := by decide +kernel
theorem dX10_order_14 : decode cX10_order 14 = .ok (.iastore, 1) := by decide +kernel
theorem dX10_order_15 : decode cX10_order 15 = .ok (.iinc 1 1, 3) := by decide +kernel
theorem dX10_order_18 : decode cX10_order 18 = .ok (.goto (-16), 3) := by decide +kernel
theorem dX10_order_21 : decode cX10_order 21 = .ok (.iconst 0, 1) := by decide +kernel
theorem dX10_order_22 : decode cX10_order 22 = .ok (.istore_n 1, 1) := by decide +kernel
theorem dX10_order_23 : decode cX10_order 23 = .ok (.iload_n 1, 1) := by decide +kernel
theorem dX10_order_24 : decode cX10_order 24 = .ok (.bipush 26, 2) := by decide +kernel
theorem dX10_order_26 : decode cX10_order 26 = .ok (.if_icmp .ge 124, 3) := by decide +kernel
theorem dX10_order_29 : decode cX10_order 29 = .ok (.iconst 0, 1) := by decide +kernel
theorem dX10_order_30 : decode cX10_order 30 = .ok (.istore_n 2, 1) := by decide +kernel
theorem dX10_order_31 : decode cX10_order 31 = .ok (.iload_n 2, 1) := by decide +kernel
theorem dX10_order_32 : decode cX10_order 32 = .ok (.bipush 26, 2) := by decide +kernel
theorem dX10_order_34 : decode cX10_order 34 = .ok (.if_icmp .ge 113, 3) := by decide +kernel
theorem dX10_order_37 : decode cX10_order 37 = .ok (.aload_n 0, 1) := by decide +kernel
theorem dX10_order_38 : decode cX10_order 38 = .ok (.getfield 91, 3) := by decide +kernel
theorem dX10_order_41 : decode cX10_order 41 = .ok (.iload_n 2, 1) := by decide +kernel
theorem dX10_order_42 : decode cX10_order 42 = .ok (.iaload, 1) := by decide +kernel
theorem dX10_order_43 : decode cX10_order 43 = .ok (.ifCond .ge 7, 3) := by decide +kernel
theorem dX10_order_46 : decode cX10_order 46 = .ok (.iconst 1, 1) := by decide +kernel
theorem dX10_order_47 : decode cX10_order 47 = .ok (.goto 4, 3) := by decide +kernel
theorem dX10_order_50 : decode cX10_order 50 = .ok (.iconst 0, 1) := by decide +kernel
theorem dX10_order_51 : decode cX10_order 51 = .ok (.istore_n 3, 1) := by decide +kernel
theorem dX10_order_52 : decode cX10_order 52 = .ok (.iconst 0, 1) := by decide +kernel
theorem dX10_order_53 : decode cX10_order 53 = .ok (.istore 4, 2) := by decide +kernel
theorem dX10_order_55 : decode cX10_order 55 = .ok (.iload 4, 2) := by decide +kernel
theorem dX10_order_57 : decode cX10_order 57 = .ok (.aload_n 0, 1) := by decide +kernel
theorem dX10_order_58 : decode cX10_order 58 = .ok (.getfield 216, 3) := by decide +kernel
theorem dX10_order_61 : decode cX10_order 61 = .ok (.if_icmp .ge 66, 3) := by decide +kernel
theorem dX10_order_64 : decode cX10_order 64 = .ok (.iload_n 3, 1) := by decide +kernel
theorem dX10_order_65 : decode cX10_order 65 = .ok (.aload_n 0, 1) := by decide +kernel
theorem dX10_order_66 : decode cX10_order 66 = .ok (.getfield 56, 3) := by decide +kernel
theorem dX10_order_69 : decode cX10_order 69 = .ok (.iload 4, 2) := by decide +kernel
theorem dX10_order_71 : decode cX10_order 71 = .ok (.iaload, 1) := by decide +kernel
theorem dX10_order_72 : decode cX10_order 72 = .ok (.iload_n 2, 1) := by decide +kernel
theorem dX10_order_73 : decode cX10_order 73 = .ok (.if_icmp .ne 41, 3) := by decide +kernel
theorem dX10_order_76 : decode cX10_order 76 = .ok (.aload_n 0, 1) := by decide +kernel
theorem dX10_order_77 : decode cX10_order 77 = .ok (.getfield 62, 3) := by decide +kernel
theorem dX10_order_80 : decode cX10_order 80 = .ok (.iload 4, 2) := by decide +kernel
theorem dX10_order_82 : decode cX10_order 82 = .ok (.iaload, 1) := by decide +kernel
theorem dX10_order_83 : decode cX10_order 83 = .ok (.iconst (-1), 1) := by decide +kernel
theorem dX10_order_84 : decode cX10_order 84 = .ok (.if_icmp .ne 30, 3) := by decide +kernel
theorem dX10_order_87 : decode cX10_order 87 = .ok (.aload_n 0, 1) := by decide +kernel
theorem dX10_order_88 : decode cX10_order 88 = .ok (.getfield 59, 3) := by decide +kernel
theorem dX10_order_91 : decode cX10_order 91 = .ok (.iload 4, 2) := by decide +kernel
theorem dX10_order_93 : decode cX10_order 93 = .ok (.iaload, 1) := by decide +kernel
theorem dX10_order_94 : decode cX10_order 94 = .ok (.bipush 100, 2) := by decide +kernel
theorem dX10_order_96 : decode cX10_order 96 = .ok (.if_icmp .ge 18, 3) := by decide +kernel
theorem dX10_order_99 : decode cX10_order 99 = .ok (.aload_n 0, 1) := by decide +kernel
theorem dX10_order_100 : decode cX10_order 100 = .ok (.getfield 91, 3) := by decide +kernel
theorem dX10_order_103 : decode cX10_order 103 = .ok (.aload_n 0, 1) := by decide +kernel
theorem dX10_order_104 : decode cX10_order 104 = .ok (.getfield 59, 3) := by decide +kernel
theorem dX10_order_107 : decode cX10_order 107 = .ok (.iload 4, 2) := by decide +kernel
theorem dX10_order_109 : decode cX10_order 109 = .ok (.iaload, 1) := by decide +kernel
theorem dX10_order_110 : decode cX10_order 110 = .ok (.iaload, 1) := by decide +kernel
theorem dX10_order_111 : decode cX10_order 111 = .ok (.ifCond .lt 7, 3) := by decide +kernel
theorem dX10_order_114 : decode cX10_order 114 = .ok (.iconst 1, 1) := by decide +kernel
theorem dX10_order_115 : decode cX10_order 115 = .ok (.goto 4, 3) := by decide +kernel
theorem dX10_order_118 : decode cX10_order 118 = .ok (.iconst 0, 1) := by decide +kernel
theorem dX10_order_119 : decode cX10_order 119 = .ok (.iand, 1) := by decide +kernel
theorem dX10_order_120 : decode cX10_order 120 = .ok (.istore_n 3, 1) := by decide +kernel
theorem dX10_order_121 : decode cX10_order 121 = .ok (.iinc 4 1, 3) := by decide +kernel
theorem dX10_order_124 : decode cX10_order 124 = .ok (.goto (-69), 3) := by decide +kernel
theorem dX10_order_127 : decode cX10_order 127 = .ok (.iload_n 3, 1) := by decide +kernel
theorem dX10_order_128 : decode cX10_order 128 = .ok (.ifCond .eq 13, 3) := by decide +kernel
theorem dX10_order_131 : decode cX10_order 131 = .ok (.aload_n 0, 1) := by decide +kernel
theorem dX10_order_132 : decode cX10_order 132 = .ok (.getfield 91, 3) := by decide +kernel
theorem dX10_order_135 : decode cX10_order 135 = .ok (.iload_n 2, 1) := by decide +kernel
theorem dX10_order_136 : decode cX10_order 136 = .ok (.iload_n 1, 1) := by decide +kernel
theorem dX10_order_137 : decode cX10_order 137 = .ok (.iastore, 1) := by decide +kernel
theorem dX10_order_138 : decode cX10_order 138 = .ok (.iinc 1 1, 3) := by decide +kernel
theorem dX10_order_141 : decode cX10_order 141 = .ok (.iinc 2 1, 3) := by decide +kernel
theorem dX10_order_144 : decode cX10_order 144 = .ok (.goto (-113), 3) := by decide +kernel
theorem dX10_order_147 : decode cX10_order 147 = .ok (.goto (-124), 3) := by decide +kernel
theorem dX10_order_150 : decode cX10_order 150 = .ok (.return_, 1) := by decide +kernel
theorem dX10_nameAt_0 : decode cX10_nameAt 0 = .ok (.iconst 0, 1) := by decide +kernel
theorem dX10_nameAt_1 : decode cX10_nameAt 1 = .ok (.istore_n 2, 1) := by decide +kernel
theorem dX10_nameAt_2 : decode cX10_nameAt 2 = .ok (.aload_n 0, 1) := by decide +kernel
theorem dX10_nameAt_3 : decode cX10_nameAt 3 = .ok (.getfield 91, 3) := by decide +kernel
theorem dX10_nameAt_6 : decode cX10_nameAt 6 = .ok (.iload_n 2, 1) := by decide +kernel
theorem dX10_nameAt_7 : decode cX10_nameAt 7 = .ok (.iaload, 1) := by decide +kernel
theorem dX10_nameAt_8 : decode cX10_nameAt 8 = .ok (.iload_n 1, 1) := by decide +kernel
theorem dX10_nameAt_9 : decode cX10_nameAt 9 = .ok (.if_icmp .eq 9, 3) := by decide +kernel
theorem dX10_nameAt_12 : decode cX10_nameAt 12 = .ok (.iinc 2 1, 3) := by decide +kernel
theorem dX10_nameAt_15 : decode cX10_nameAt 15 = .ok (.goto (-13), 3) := by decide +kernel
theorem dX10_nameAt_18 : decode cX10_nameAt 18 = .ok (.iload_n 2, 1) := by decide +kernel
theorem dX10_nameAt_19 : decode cX10_nameAt 19 = .ok (.ireturn, 1) := by decide +kernel
theorem dX10_parse_0 : decode cX10_parse 0 = .ok (.aload_n 0, 1) := by decide +kernel
theorem dX10_parse_1 : decode cX10_parse 1 = .ok (.iconst 0, 1) := by decide +kernel
theorem dX10_parse_2 : decode cX10_parse 2 = .ok (.putfield 106, 3) := by decide +kernel
theorem dX10_parse_5 : decode cX10_parse 5 = .ok (.aload_n 0, 1) := by decide +kernel
theorem dX10_parse_6 : decode cX10_parse 6 = .ok (.getfield 172, 3) := by decide +kernel
theorem dX10_parse_9 : decode cX10_parse 9 = .ok (.ifCond .eq 10, 3) := by decide +kernel
theorem dX10_parse_12 : decode cX10_parse 12 = .ok (.aload_n 0, 1) := by decide +kernel
theorem dX10_parse_13 : decode cX10_parse 13 = .ok (.getfield 175, 3) := by decide +kernel
theorem dX10_parse_16 : decode cX10_parse 16 = .ok (.ifCond .ne 5, 3) := by decide +kernel
theorem dX10_parse_19 : decode cX10_parse 19 = .ok (.iconst (-1), 1) := by decide +kernel
theorem dX10_parse_20 : decode cX10_parse 20 = .ok (.ireturn, 1) := by decide +kernel
theorem dX10_parse_21 : decode cX10_parse 21 = .ok (.aload_n 0, 1) := by decide +kernel
theorem dX10_parse_22 : decode cX10_parse 22 = .ok (.iconst 1, 1) := by decide +kernel
theorem dX10_parse_23 : decode cX10_parse 23 = .ok (.putfield 219, 3) := by decide +kernel
theorem dX10_parse_26 : decode cX10_parse 26 = .ok (.aload_n 0, 1) := by decide +kernel
theorem dX10_parse_27 : decode cX10_parse 27 = .ok (.aload_n 0, 1) := by decide +kernel
theorem dX10_parse_28 : decode cX10_parse 28 = .ok (.getfield 175, 3) := by decide +kernel
theorem dX10_parse_31 : decode cX10_parse 31 = .ok (.putfield 192, 3) := by decide +kernel
theorem dX10_parse_34 : decode cX10_parse 34 = .ok (.aload_n 0, 1) := by decide +kernel
theorem dX10_parse_35 : decode cX10_parse 35 = .ok (.aload_n 0, 1) := by decide +kernel
theorem dX10_parse_36 : decode cX10_parse 36 = .ok (.getfield 172, 3) := by decide +kernel
theorem dX10_parse_39 : decode cX10_parse 39 = .ok (.putfield 216, 3) := by decide +kernel
theorem dX10_parse_42 : decode cX10_parse 42 = .ok (.iconst 0, 1) := by decide +kernel
theorem dX10_parse_43 : decode cX10_parse 43 = .ok (.istore_n 1, 1) := by decide +kernel
theorem dX10_parse_44 : decode cX10_parse 44 = .ok (.iload_n 1, 1) := by decide +kernel
theorem dX10_parse_45 : decode cX10_parse 45 = .ok (.aload_n 0, 1) := by decide +kernel
theorem dX10_parse_46 : decode cX10_parse 46 = .ok (.getfield 172, 3) := by decide +kernel
theorem dX10_parse_49 : decode cX10_parse 49 = .ok (.if_icmp .ge 57, 3) := by decide +kernel
theorem dX10_parse_52 : decode cX10_parse 52 = .ok (.aload_n 0, 1) := by decide +kernel
theorem dX10_parse_53 : decode cX10_parse 53 = .ok (.getfield 56, 3) := by decide +kernel
theorem dX10_parse_56 : decode cX10_parse 56 = .ok (.iload_n 1, 1) := by decide +kernel
theorem dX10_parse_57 : decode cX10_parse 57 = .ok (.aload_n 0, 1) := by decide +kernel
theorem dX10_parse_58 : decode cX10_parse 58 = .ok (.getfield 25, 3) := by decide +kernel
theorem dX10_parse_61 : decode cX10_parse 61 = .ok (.iload_n 1, 1) := by decide +kernel
theorem dX10_parse_62 : decode cX10_parse 62 = .ok (.iaload, 1) := by decide +kernel
theorem dX10_parse_63 : decode cX10_parse 63 = .ok (.iastore, 1) := by decide +kernel
theorem dX10_parse_64 : decode cX10_parse 64 = .ok (.aload_n 0, 1) := by decide +kernel
theorem dX10_parse_65 : decode cX10_parse 65 = .ok (.getfield 59, 3) := by decide +kernel
theorem dX10_parse_68 : decode cX10_parse 68 = .ok (.iload_n 1, 1) := by decide +kernel
theorem dX10_parse_69 : decode cX10_parse 69 = .ok (.aload_n 0, 1) := by decide +kernel
theorem dX10_parse_70 : decode cX10_parse 70 = .ok (.getfield 28, 3) := by decide +kernel
theorem dX10_parse_73 : decode cX10_parse 73 = .ok (.iload_n 1, 1) := by decide +kernel
theorem dX10_parse_74 : decode cX10_parse 74 = .ok (.iaload, 1) := by decide +kernel
theorem dX10_parse_75 : decode cX10_parse 75 = .ok (.iastore, 1) := by decide +kernel
theorem dX10_parse_76 : decode cX10_parse 76 = .ok (.aload_n 0, 1) := by decide +kernel
theorem dX10_parse_77 : decode cX10_parse 77 = .ok (.getfield 62, 3) := by decide +kernel
theorem dX10_parse_80 : decode cX10_parse 80 = .ok (.iload_n 1, 1) := by decide +kernel
theorem dX10_parse_81 : decode cX10_parse 81 = .ok (.aload_n 0, 1) := by decide +kernel
theorem dX10_parse_82 : decode cX10_parse 82 = .ok (.getfield 31, 3) := by decide +kernel
theorem dX10_parse_85 : decode cX10_parse 85 = .ok (.iload_n 1, 1) := by decide +kernel
theorem dX10_parse_86 : decode cX10_parse 86 = .ok (.iaload, 1) := by decide +kernel
theorem dX10_parse_87 : decode cX10_parse 87 = .ok (.iastore, 1) := by decide +kernel
theorem dX10_parse_88 : decode cX10_parse 88 = .ok (.aload_n 0, 1) := by decide +kernel
theorem dX10_parse_89 : decode cX10_parse 89 = .ok (.getfield 65, 3) := by decide +kernel
theorem dX10_parse_92 : decode cX10_parse 92 = .ok (.iload_n 1, 1) := by decide +kernel
theorem dX10_parse_93 : decode cX10_parse 93 = .ok (.aload_n 0, 1) := by decide +kernel
theorem dX10_parse_94 : decode cX10_parse 94 = .ok (.getfield 34, 3) := by decide +kernel
theorem dX10_parse_97 : decode cX10_parse 97 = .ok (.iload_n 1, 1) := by decide +kernel
theorem dX10_parse_98 : decode cX10_parse 98 = .ok (.iaload, 1) := by decide +kernel
theorem dX10_parse_99 : decode cX10_parse 99 = .ok (.iastore, 1) := by decide +kernel
theorem dX10_parse_100 : decode cX10_parse 100 = .ok (.iinc 1 1, 3) := by decide +kernel
theorem dX10_parse_103 : decode cX10_parse 103 = .ok (.goto (-59), 3) := by decide +kernel
theorem dX10_parse_106 : decode cX10_parse 106 = .ok (.iconst 0, 1) := by decide +kernel
theorem dX10_parse_107 : decode cX10_parse 107 = .ok (.istore_n 1, 1) := by decide +kernel
theorem dX10_parse_108 : decode cX10_parse 108 = .ok (.iload_n 1, 1) := by decide +kernel
theorem dX10_parse_109 : decode cX10_parse 109 = .ok (.aload_n 0, 1) := by decide +kernel
theorem dX10_parse_110 : decode cX10_parse 110 = .ok (.getfield 192, 3) := by decide +kernel
theorem dX10_parse_113 : decode cX10_parse 113 = .ok (.if_icmp .ge 21, 3) := by decide +kernel
theorem dX10_parse_116 : decode cX10_parse 116 = .ok (.aload_n 0, 1) := by decide +kernel
theorem dX10_parse_117 : decode cX10_parse 117 = .ok (.getfield 68, 3) := by decide +kernel
theorem dX10_parse_120 : decode cX10_parse 120 = .ok (.iload_n 1, 1) := by decide +kernel
theorem dX10_parse_121 : decode cX10_parse 121 = .ok (.aload_n 0, 1) := by decide +kernel
theorem dX10_parse_122 : decode cX10_parse 122 = .ok (.getfield 22, 3) := by decide +kernel
theorem dX10_parse_125 : decode cX10_parse 125 = .ok (.iload_n 1, 1) := by decide +kernel
theorem dX10_parse_126 : decode cX10_parse 126 = .ok (.iaload, 1) := by decide +kernel
theorem dX10_parse_127 : decode cX10_parse 127 = .ok (.iastore, 1) := by decide +kernel
theorem dX10_parse_128 : decode cX10_parse 128 = .ok (.iinc 1 1, 3) := by decide +kernel
theorem dX10_parse_131 : decode cX10_parse 131 = .ok (.goto (-23), 3) := by decide +kernel
theorem dX10_parse_134 : decode cX10_parse 134 = .ok (.aload_n 0, 1) := by decide +kernel
theorem dX10_parse_135 : decode cX10_parse 135 = .ok (.invokevirtual 222, 3) := by decide +kernel
theorem dX10_parse_138 : decode cX10_parse 138 = .ok (.aload_n 0, 1) := by decide +kernel
theorem dX10_parse_139 : decode cX10_parse 139 = .ok (.invokevirtual 225, 3) := by decide +kernel
theorem dX10_parse_142 : decode cX10_parse 142 = .ok (.iconst 0, 1) := by decide +kernel
theorem dX10_parse_143 : decode cX10_parse 143 = .ok (.istore_n 1, 1) := by decide +kernel
theorem dX10_parse_144 : decode cX10_parse 144 = .ok (.iload_n 1, 1) := by decide +kernel
theorem dX10_parse_145 : decode cX10_parse 145 = .ok (.sipush 7800, 3) := by decide +kernel
theorem dX10_parse_148 : decode cX10_parse 148 = .ok (.if_icmp .ge 23, 3) := by decide +kernel
theorem dX10_parse_151 : decode cX10_parse 151 = .ok (.aload_n 0, 1) := by decide +kernel
theorem dX10_parse_152 : decode cX10_parse 152 = .ok (.getfield 77, 3) := by decide +kernel
theorem dX10_parse_155 : decode cX10_parse 155 = .ok (.iload_n 1, 1) := by decide +kernel
theorem dX10_parse_156 : decode cX10_parse 156 = .ok (.iconst 0, 1) := by decide +kernel
theorem dX10_parse_157 : decode cX10_parse 157 = .ok (.iastore, 1) := by decide +kernel
theorem dX10_parse_158 : decode cX10_parse 158 = .ok (.aload_n 0, 1) := by decide +kernel
theorem dX10_parse_159 : decode cX10_parse 159 = .ok (.getfield 80, 3) := by decide +kernel
theorem dX10_parse_162 : decode cX10_parse 162 = .ok (.iload_n 1, 1) := by decide +kernel
theorem dX10_parse_163 : decode cX10_parse 163 = .ok (.lconst 0, 1) := by decide +kernel
theorem dX10_parse_164 : decode cX10_parse 164 = .ok (.lastore, 1) := by decide +kernel
theorem dX10_parse_165 : decode cX10_parse 165 = .ok (.iinc 1 1, 3) := by decide +kernel
theorem dX10_parse_168 : decode cX10_parse 168 = .ok (.goto (-24), 3) := by decide +kernel
theorem dX10_parse_171 : decode cX10_parse 171 = .ok (.iconst 0, 1) := by decide +kernel
theorem dX10_parse_172 : decode cX10_parse 172 = .ok (.istore_n 1, 1) := by decide +kernel
theorem dX10_parse_173 : decode cX10_parse 173 = .ok (.iload_n 1, 1) := by decide +kernel
theorem dX10_parse_174 : decode cX10_parse 174 = .ok (.aload_n 0, 1) := by decide +kernel
theorem dX10_parse_175 : decode cX10_parse 175 = .ok (.getfield 192, 3) := by decide +kernel
theorem dX10_parse_178 : decode cX10_parse 178 = .ok (.if_icmp .ge 139, 3) := by decide +kernel
theorem dX10_parse_181 : decode cX10_parse 181 = .ok (.iconst 0, 1) := by decide +kernel
theorem dX10_parse_182 : decode cX10_parse 182 = .ok (.istore_n 2, 1) := by decide +kernel
theorem dX10_parse_183 : decode cX10_parse 183 = .ok (.iload_n 2, 1) := by decide +kernel
theorem dX10_parse_184 : decode cX10_parse 184 = .ok (.iload_n 1, 1) := by decide +kernel
theorem dX10_parse_185 : decode cX10_parse 185 = .ok (.iadd, 1) := by decide +kernel
theorem dX10_parse_186 : decode cX10_parse 186 = .ok (.aload_n 0, 1) := by decide +kernel
theorem dX10_parse_187 : decode cX10_parse 187 = .ok (.getfield 192, 3) := by decide +kernel
theorem dX10_parse_190 : decode cX10_parse 190 = .ok (.if_icmp .ge 121, 3) := by decide +kernel
theorem dX10_parse_193 : decode cX10_parse 193 = .ok (.iconst 0, 1) := by decide +kernel
theorem dX10_parse_194 : decode cX10_parse 194 = .ok (.istore_n 3, 1) := by decide +kernel
theorem dX10_parse_195 : decode cX10_parse 195 = .ok (.iload_n 3, 1) := by decide +kernel
theorem dX10_parse_196 : decode cX10_parse 196 = .ok (.bipush 26, 2) := by decide +kernel
theorem dX10_parse_198 : decode cX10_parse 198 = .ok (.if_icmp .ge 107, 3) := by decide +kernel
theorem dX10_parse_201 : decode cX10_parse 201 = .ok (.aload_n 0, 1) := by decide +kernel
theorem dX10_parse_202 : decode cX10_parse 202 = .ok (.iload_n 3, 1) := by decide +kernel
theorem dX10_parse_203 : decode cX10_parse 203 = .ok (.invokevirtual 228, 3) := by decide +kernel
theorem dX10_parse_206 : decode cX10_parse 206 = .ok (.istore 4, 2) := by decide +kernel
theorem dX10_parse_208 : decode cX10_parse 208 = .ok (.iload 4, 2) := by decide +kernel
theorem dX10_parse_210 : decode cX10_parse 210 = .ok (.iload_n 2, 1) := by decide +kernel
theorem dX10_parse_211 : decode cX10_parse 211 = .ok (.iload_n 2, 1) := by decide +kernel
theorem dX10_parse_212 : decode cX10_parse 212 = .ok (.iload_n 1, 1) := by decide +kernel
theorem dX10_parse_213 : decode cX10_parse 213 = .ok (.iadd, 1) := by decide +kernel
theorem dX10_parse_214 : decode cX10_parse 214 = .ok (.invokestatic 198, 3) := by decide +kernel
theorem dX10_parse_217 : decode cX10_parse 217 = .ok (.istore 5, 2) := by decide +kernel
theorem dX10_parse_219 : decode cX10_parse 219 = .ok (.iconst 0, 1) := by decide +kernel
theorem dX10_parse_220 : decode cX10_parse 220 = .ok (.istore 6, 2) := by decide +kernel
theorem dX10_parse_222 : decode cX10_parse 222 = .ok (.iload 6, 2) := by decide +kernel
theorem dX10_parse_224 : decode cX10_parse 224 = .ok (.aload_n 0, 1) := by decide +kernel
theorem dX10_parse_225 : decode cX10_parse 225 = .ok (.getfield 216, 3) := by decide +kernel
theorem dX10_parse_228 : decode cX10_parse 228 = .ok (.if_icmp .ge 71, 3) := by decide +kernel
theorem dX10_parse_231 : decode cX10_parse 231 = .ok (.aload_n 0, 1) := by decide +kernel
theorem dX10_parse_232 : decode cX10_parse 232 = .ok (.getfield 56, 3) := by decide +kernel
theorem dX10_parse_235 : decode cX10_parse 235 = .ok (.iload 6, 2) := by decide +kernel
theorem dX10_parse_237 : decode cX10_parse 237 = .ok (.iaload, 1) := by decide +kernel
theorem dX10_parse_238 : decode cX10_parse 238 = .ok (.iload 4, 2) := by decide +kernel
theorem dX10_parse_240 : decode cX10_parse 240 = .ok (.if_icmp .ne 29, 3) := by decide +kernel
theorem dX10_parse_243 : decode cX10_parse 243 = .ok (.aload_n 0, 1) := by decide +kernel
theorem dX10_parse_244 : decode cX10_parse 244 = .ok (.getfield 62, 3) := by decide +kernel
theorem dX10_parse_247 : decode cX10_parse 247 = .ok (.iload 6, 2) := by decide +kernel
theorem dX10_parse_249 : decode cX10_parse 249 = .ok (.iaload, 1) := by decide +kernel
theorem dX10_parse_250 : decode cX10_parse 250 = .ok (.iconst (-1), 1) := by decide +kernel
theorem dX10_parse_251 : decode cX10_parse 251 = .ok (.if_icmp .ne 18, 3) := by decide +kernel
theorem dX10_parse_254 : decode cX10_parse 254 = .ok (.aload_n 0, 1) := by decide +kernel
end
section
theorem dX10_parse_255 : decode cX10_parse 255 = .ok (.iload 5, 2) := by decide +kernel
theorem dX10_parse_257 : decode cX10_parse 257 = .ok (.iload 6, 2) := by decide +kernel
theorem dX10_parse_259 : decode cX10_parse 259 = .ok (.iload_n 2, 1) := by decide +kernel
theorem dX10_parse_260 : decode cX10_parse 260 = .ok (.iload_n 2, 1) := by decide +kernel
theorem dX10_parse_261 : decode cX10_parse 261 = .ok (.iload_n 1, 1) := by decide +kernel
theorem dX10_parse_262 : decode cX10_parse 262 = .ok (.iadd, 1) := by decide +kernel
theorem dX10_parse_263 : decode cX10_parse 263 = .ok (.invokevirtual 231, 3) := by decide +kernel
theorem dX10_parse_266 : decode cX10_parse 266 = .ok (.goto 27, 3) := by decide +kernel
theorem dX10_parse_269 : decode cX10_parse 269 = .ok (.aload_n 0, 1) := by decide +kernel
theorem dX10_parse_270 : decode cX10_parse 270 = .ok (.getfield 56, 3) := by decide +kernel
theorem dX10_parse_273 : decode cX10_parse 273 = .ok (.iload 6, 2) := by decide +kernel
theorem dX10_parse_275 : decode cX10_parse 275 = .ok (.iaload, 1) := by decide +kernel
theorem dX10_parse_276 : decode cX10_parse 276 = .ok (.iload 4, 2) := by decide +kernel
theorem dX10_parse_278 : decode cX10_parse 278 = .ok (.if_icmp .ne 15, 3) := by decide +kernel
theorem dX10_parse_281 : decode cX10_parse 281 = .ok (.aload_n 0, 1) := by decide +kernel
theorem dX10_parse_282 : decode cX10_parse 282 = .ok (.iload 5, 2) := by decide +kernel
theorem dX10_parse_284 : decode cX10_parse 284 = .ok (.iload 6, 2) := by decide +kernel
theorem dX10_parse_286 : decode cX10_parse 286 = .ok (.iload_n 2, 1) := by decide +kernel
theorem dX10_parse_287 : decode cX10_parse 287 = .ok (.iload_n 2, 1) := by decide +kernel
theorem dX10_parse_288 : decode cX10_parse 288 = .ok (.iload_n 1, 1) := by decide +kernel
theorem dX10_parse_289 : decode cX10_parse 289 = .ok (.iadd, 1) := by decide +kernel
theorem dX10_parse_290 : decode cX10_parse 290 = .ok (.invokevirtual 235, 3) := by decide +kernel
theorem dX10_parse_293 : decode cX10_parse 293 = .ok (.iinc 6 1, 3) := by decide +kernel
theorem dX10_parse_296 : decode cX10_parse 296 = .ok (.goto (-74), 3) := by decide +kernel
theorem dX10_parse_299 : decode cX10_parse 299 = .ok (.iinc 3 1, 3) := by decide +kernel
theorem dX10_parse_302 : decode cX10_parse 302 = .ok (.goto (-107), 3) := by decide +kernel
theorem dX10_parse_305 : decode cX10_parse 305 = .ok (.iinc 2 1, 3) := by decide +kernel
theorem dX10_parse_308 : decode cX10_parse 308 = .ok (.goto (-125), 3) := by decide +kernel
theorem dX10_parse_311 : decode cX10_parse 311 = .ok (.iinc 1 1, 3) := by decide +kernel
theorem dX10_parse_314 : decode cX10_parse 314 = .ok (.goto (-141), 3) := by decide +kernel
theorem dX10_parse_317 : decode cX10_parse 317 = .ok (.aload_n 0, 1) := by decide +kernel
theorem dX10_parse_318 : decode cX10_parse 318 = .ok (.invokevirtual 238, 3) := by decide +kernel
theorem dX10_parse_321 : decode cX10_parse 321 = .ok (.ireturn, 1) := by decide +kernel
theorem dX10_topCell_0 : decode cX10_topCell 0 = .ok (.aload_n 0, 1) := by decide +kernel
theorem dX10_topCell_1 : decode cX10_topCell 1 = .ok (.getfield 56, 3) := by decide +kernel
theorem dX10_topCell_4 : decode cX10_topCell 4 = .ok (.iconst 0, 1) := by decide +kernel
theorem dX10_topCell_5 : decode cX10_topCell 5 = .ok (.iaload, 1) := by decide +kernel
theorem dX10_topCell_6 : decode cX10_topCell 6 = .ok (.iconst 0, 1) := by decide +kernel
theorem dX10_topCell_7 : decode cX10_topCell 7 = .ok (.aload_n 0, 1) := by decide +kernel
theorem dX10_topCell_8 : decode cX10_topCell 8 = .ok (.getfield 192, 3) := by decide +kernel
theorem dX10_topCell_11 : decode cX10_topCell 11 = .ok (.iconst 1, 1) := by decide +kernel
theorem dX10_topCell_12 : decode cX10_topCell 12 = .ok (.isub, 1) := by decide +kernel
theorem dX10_topCell_13 : decode cX10_topCell 13 = .ok (.invokestatic 198, 3) := by decide +kernel
theorem dX10_topCell_16 : decode cX10_topCell 16 = .ok (.ireturn, 1) := by decide +kernel
theorem dX10_listed_0 : decode cX10_listed 0 = .ok (.aload_n 0, 1) := by decide +kernel
theorem dX10_listed_1 : decode cX10_listed 1 = .ok (.getfield 219, 3) := by decide +kernel
theorem dX10_listed_4 : decode cX10_listed 4 = .ok (.ifCond .eq 15, 3) := by decide +kernel
theorem dX10_listed_7 : decode cX10_listed 7 = .ok (.aload_n 0, 1) := by decide +kernel
theorem dX10_listed_8 : decode cX10_listed 8 = .ok (.getfield 77, 3) := by decide +kernel
theorem dX10_listed_11 : decode cX10_listed 11 = .ok (.aload_n 0, 1) := by decide +kernel
theorem dX10_listed_12 : decode cX10_listed 12 = .ok (.invokevirtual 241, 3) := by decide +kernel
theorem dX10_listed_15 : decode cX10_listed 15 = .ok (.iaload, 1) := by decide +kernel
theorem dX10_listed_16 : decode cX10_listed 16 = .ok (.goto 4, 3) := by decide +kernel
theorem dX10_listed_19 : decode cX10_listed 19 = .ok (.iconst 0, 1) := by decide +kernel
theorem dX10_listed_20 : decode cX10_listed 20 = .ok (.ireturn, 1) := by decide +kernel
theorem dX10_noReading_0 : decode cX10_noReading 0 = .ok (.iload_n 1, 1) := by decide +kernel
theorem dX10_noReading_1 : decode cX10_noReading 1 = .ok (.ifCond .lt 11, 3) := by decide +kernel
theorem dX10_noReading_4 : decode cX10_noReading 4 = .ok (.iload_n 1, 1) := by decide +kernel
theorem dX10_noReading_5 : decode cX10_noReading 5 = .ok (.aload_n 0, 1) := by decide +kernel
theorem dX10_noReading_6 : decode cX10_noReading 6 = .ok (.invokevirtual 238, 3) := by decide +kernel
theorem dX10_noReading_9 : decode cX10_noReading 9 = .ok (.if_icmp .lt 7, 3) := by decide +kernel
theorem dX10_noReading_12 : decode cX10_noReading 12 = .ok (.iconst 1, 1) := by decide +kernel
theorem dX10_noReading_13 : decode cX10_noReading 13 = .ok (.goto 4, 3) := by decide +kernel
theorem dX10_noReading_16 : decode cX10_noReading 16 = .ok (.iconst 0, 1) := by decide +kernel
theorem dX10_noReading_17 : decode cX10_noReading 17 = .ok (.ireturn, 1) := by decide +kernel
theorem dX10_readings_0 : decode cX10_readings 0 = .ok (.aload_n 0, 1) := by decide +kernel
theorem dX10_readings_1 : decode cX10_readings 1 = .ok (.iconst 0, 1) := by decide +kernel
theorem dX10_readings_2 : decode cX10_readings 2 = .ok (.putfield 106, 3) := by decide +kernel
theorem dX10_readings_5 : decode cX10_readings 5 = .ok (.aload_n 0, 1) := by decide +kernel
theorem dX10_readings_6 : decode cX10_readings 6 = .ok (.getfield 219, 3) := by decide +kernel
theorem dX10_readings_9 : decode cX10_readings 9 = .ok (.ifCond .eq 15, 3) := by decide +kernel
theorem dX10_readings_12 : decode cX10_readings 12 = .ok (.aload_n 0, 1) := by decide +kernel
theorem dX10_readings_13 : decode cX10_readings 13 = .ok (.getfield 80, 3) := by decide +kernel
theorem dX10_readings_16 : decode cX10_readings 16 = .ok (.aload_n 0, 1) := by decide +kernel
theorem dX10_readings_17 : decode cX10_readings 17 = .ok (.invokevirtual 241, 3) := by decide +kernel
theorem dX10_readings_20 : decode cX10_readings 20 = .ok (.laload, 1) := by decide +kernel
theorem dX10_readings_21 : decode cX10_readings 21 = .ok (.goto 4, 3) := by decide +kernel
theorem dX10_readings_24 : decode cX10_readings 24 = .ok (.lconst 0, 1) := by decide +kernel
theorem dX10_readings_25 : decode cX10_readings 25 = .ok (.lreturn, 1) := by decide +kernel
theorem dX10_price_0 : decode cX10_price 0 = .ok (.aload_n 0, 1) := by decide +kernel
theorem dX10_price_1 : decode cX10_price 1 = .ok (.iconst 0, 1) := by decide +kernel
theorem dX10_price_2 : decode cX10_price 2 = .ok (.putfield 106, 3) := by decide +kernel
theorem dX10_price_5 : decode cX10_price 5 = .ok (.aload_n 0, 1) := by decide +kernel
theorem dX10_price_6 : decode cX10_price 6 = .ok (.iload_n 1, 1) := by decide +kernel
theorem dX10_price_7 : decode cX10_price 7 = .ok (.invokevirtual 244, 3) := by decide +kernel
theorem dX10_price_10 : decode cX10_price 10 = .ok (.ifCond .eq 7, 3) := by decide +kernel
theorem dX10_price_13 : decode cX10_price 13 = .ok (.iconst (-1), 1) := by decide +kernel
theorem dX10_price_14 : decode cX10_price 14 = .ok (.goto 17, 3) := by decide +kernel
theorem dX10_price_17 : decode cX10_price 17 = .ok (.aload_n 0, 1) := by decide +kernel
theorem dX10_price_18 : decode cX10_price 18 = .ok (.getfield 85, 3) := by decide +kernel
theorem dX10_price_21 : decode cX10_price 21 = .ok (.bipush 30, 2) := by decide +kernel
theorem dX10_price_23 : decode cX10_price 23 = .ok (.aload_n 0, 1) := by decide +kernel
theorem dX10_price_24 : decode cX10_price 24 = .ok (.invokevirtual 241, 3) := by decide +kernel
theorem dX10_price_27 : decode cX10_price 27 = .ok (.imul, 1) := by decide +kernel
theorem dX10_price_28 : decode cX10_price 28 = .ok (.iload_n 1, 1) := by decide +kernel
theorem dX10_price_29 : decode cX10_price 29 = .ok (.iadd, 1) := by decide +kernel
theorem dX10_price_30 : decode cX10_price 30 = .ok (.iaload, 1) := by decide +kernel
theorem dX10_price_31 : decode cX10_price 31 = .ok (.ireturn, 1) := by decide +kernel
theorem dX10_later_0 : decode cX10_later 0 = .ok (.aload_n 0, 1) := by decide +kernel
theorem dX10_later_1 : decode cX10_later 1 = .ok (.getfield 94, 3) := by decide +kernel
theorem dX10_later_4 : decode cX10_later 4 = .ok (.aload_n 0, 1) := by decide +kernel
theorem dX10_later_5 : decode cX10_later 5 = .ok (.getfield 247, 3) := by decide +kernel
theorem dX10_later_8 : decode cX10_later 8 = .ok (.iload_n 1, 1) := by decide +kernel
theorem dX10_later_9 : decode cX10_later 9 = .ok (.iastore, 1) := by decide +kernel
theorem dX10_later_10 : decode cX10_later 10 = .ok (.aload_n 0, 1) := by decide +kernel
theorem dX10_later_11 : decode cX10_later 11 = .ok (.getfield 97, 3) := by decide +kernel
theorem dX10_later_14 : decode cX10_later 14 = .ok (.aload_n 0, 1) := by decide +kernel
theorem dX10_later_15 : decode cX10_later 15 = .ok (.getfield 247, 3) := by decide +kernel
theorem dX10_later_18 : decode cX10_later 18 = .ok (.iload_n 2, 1) := by decide +kernel
theorem dX10_later_19 : decode cX10_later 19 = .ok (.iastore, 1) := by decide +kernel
theorem dX10_later_20 : decode cX10_later 20 = .ok (.aload_n 0, 1) := by decide +kernel
theorem dX10_later_21 : decode cX10_later 21 = .ok (.getfield 100, 3) := by decide +kernel
theorem dX10_later_24 : decode cX10_later 24 = .ok (.aload_n 0, 1) := by decide +kernel
theorem dX10_later_25 : decode cX10_later 25 = .ok (.getfield 247, 3) := by decide +kernel
theorem dX10_later_28 : decode cX10_later 28 = .ok (.iload_n 3, 1) := by decide +kernel
theorem dX10_later_29 : decode cX10_later 29 = .ok (.iastore, 1) := by decide +kernel
theorem dX10_later_30 : decode cX10_later 30 = .ok (.aload_n 0, 1) := by decide +kernel
theorem dX10_later_31 : decode cX10_later 31 = .ok (.getfield 103, 3) := by decide +kernel
theorem dX10_later_34 : decode cX10_later 34 = .ok (.aload_n 0, 1) := by decide +kernel
theorem dX10_later_35 : decode cX10_later 35 = .ok (.getfield 247, 3) := by decide +kernel
theorem dX10_later_38 : decode cX10_later 38 = .ok (.iload 4, 2) := by decide +kernel
theorem dX10_later_40 : decode cX10_later 40 = .ok (.iastore, 1) := by decide +kernel
theorem dX10_later_41 : decode cX10_later 41 = .ok (.aload_n 0, 1) := by decide +kernel
theorem dX10_later_42 : decode cX10_later 42 = .ok (.dup, 1) := by decide +kernel
theorem dX10_later_43 : decode cX10_later 43 = .ok (.getfield 247, 3) := by decide +kernel
theorem dX10_later_46 : decode cX10_later 46 = .ok (.iconst 1, 1) := by decide +kernel
theorem dX10_later_47 : decode cX10_later 47 = .ok (.iadd, 1) := by decide +kernel
theorem dX10_later_48 : decode cX10_later 48 = .ok (.putfield 247, 3) := by decide +kernel
theorem dX10_later_51 : decode cX10_later 51 = .ok (.return_, 1) := by decide +kernel
theorem dX10_begin_0 : decode cX10_begin 0 = .ok (.aload_n 0, 1) := by decide +kernel
theorem dX10_begin_1 : decode cX10_begin 1 = .ok (.iconst 0, 1) := by decide +kernel
theorem dX10_begin_2 : decode cX10_begin 2 = .ok (.putfield 247, 3) := by decide +kernel
theorem dX10_begin_5 : decode cX10_begin 5 = .ok (.aload_n 0, 1) := by decide +kernel
theorem dX10_begin_6 : decode cX10_begin 6 = .ok (.aload_n 0, 1) := by decide +kernel
theorem dX10_begin_7 : decode cX10_begin 7 = .ok (.getfield 56, 3) := by decide +kernel
theorem dX10_begin_10 : decode cX10_begin 10 = .ok (.iconst 0, 1) := by decide +kernel
theorem dX10_begin_11 : decode cX10_begin 11 = .ok (.iaload, 1) := by decide +kernel
theorem dX10_begin_12 : decode cX10_begin 12 = .ok (.iconst 0, 1) := by decide +kernel
theorem dX10_begin_13 : decode cX10_begin 13 = .ok (.aload_n 0, 1) := by decide +kernel
theorem dX10_begin_14 : decode cX10_begin 14 = .ok (.getfield 192, 3) := by decide +kernel
theorem dX10_begin_17 : decode cX10_begin 17 = .ok (.iconst 1, 1) := by decide +kernel
theorem dX10_begin_18 : decode cX10_begin 18 = .ok (.isub, 1) := by decide +kernel
theorem dX10_begin_19 : decode cX10_begin 19 = .ok (.iload_n 1, 1) := by decide +kernel
theorem dX10_begin_20 : decode cX10_begin 20 = .ok (.invokevirtual 250, 3) := by decide +kernel
theorem dX10_begin_23 : decode cX10_begin 23 = .ok (.return_, 1) := by decide +kernel
theorem dX10_next_0 : decode cX10_next 0 = .ok (.aload_n 0, 1) := by decide +kernel
theorem dX10_next_1 : decode cX10_next 1 = .ok (.getfield 247, 3) := by decide +kernel
theorem dX10_next_4 : decode cX10_next 4 = .ok (.ifCond .ne 5, 3) := by decide +kernel
theorem dX10_next_7 : decode cX10_next 7 = .ok (.iconst 0, 1) := by decide +kernel
theorem dX10_next_8 : decode cX10_next 8 = .ok (.ireturn, 1) := by decide +kernel
theorem dX10_next_9 : decode cX10_next 9 = .ok (.aload_n 0, 1) := by decide +kernel
theorem dX10_next_10 : decode cX10_next 10 = .ok (.dup, 1) := by decide +kernel
theorem dX10_next_11 : decode cX10_next 11 = .ok (.getfield 247, 3) := by decide +kernel
theorem dX10_next_14 : decode cX10_next 14 = .ok (.iconst 1, 1) := by decide +kernel
theorem dX10_next_15 : decode cX10_next 15 = .ok (.isub, 1) := by decide +kernel
theorem dX10_next_16 : decode cX10_next 16 = .ok (.putfield 247, 3) := by decide +kernel
theorem dX10_next_19 : decode cX10_next 19 = .ok (.aload_n 0, 1) := by decide +kernel
theorem dX10_next_20 : decode cX10_next 20 = .ok (.aload_n 0, 1) := by decide +kernel
theorem dX10_next_21 : decode cX10_next 21 = .ok (.getfield 94, 3) := by decide +kernel
theorem dX10_next_24 : decode cX10_next 24 = .ok (.aload_n 0, 1) := by decide +kernel
theorem dX10_next_25 : decode cX10_next 25 = .ok (.getfield 247, 3) := by decide +kernel
theorem dX10_next_28 : decode cX10_next 28 = .ok (.iaload, 1) := by decide +kernel
theorem dX10_next_29 : decode cX10_next 29 = .ok (.putfield 253, 3) := by decide +kernel
theorem dX10_next_32 : decode cX10_next 32 = .ok (.aload_n 0, 1) := by decide +kernel
theorem dX10_next_33 : decode cX10_next 33 = .ok (.aload_n 0, 1) := by decide +kernel
theorem dX10_next_34 : decode cX10_next 34 = .ok (.getfield 97, 3) := by decide +kernel
theorem dX10_next_37 : decode cX10_next 37 = .ok (.aload_n 0, 1) := by decide +kernel
theorem dX10_next_38 : decode cX10_next 38 = .ok (.getfield 247, 3) := by decide +kernel
theorem dX10_next_41 : decode cX10_next 41 = .ok (.iaload, 1) := by decide +kernel
theorem dX10_next_42 : decode cX10_next 42 = .ok (.putfield 256, 3) := by decide +kernel
theorem dX10_next_45 : decode cX10_next 45 = .ok (.aload_n 0, 1) := by decide +kernel
theorem dX10_next_46 : decode cX10_next 46 = .ok (.aload_n 0, 1) := by decide +kernel
theorem dX10_next_47 : decode cX10_next 47 = .ok (.getfield 100, 3) := by decide +kernel
theorem dX10_next_50 : decode cX10_next 50 = .ok (.aload_n 0, 1) := by decide +kernel
theorem dX10_next_51 : decode cX10_next 51 = .ok (.getfield 247, 3) := by decide +kernel
theorem dX10_next_54 : decode cX10_next 54 = .ok (.iaload, 1) := by decide +kernel
theorem dX10_next_55 : decode cX10_next 55 = .ok (.putfield 259, 3) := by decide +kernel
theorem dX10_next_58 : decode cX10_next 58 = .ok (.aload_n 0, 1) := by decide +kernel
theorem dX10_next_59 : decode cX10_next 59 = .ok (.iconst (-1), 1) := by decide +kernel
theorem dX10_next_60 : decode cX10_next 60 = .ok (.putfield 262, 3) := by decide +kernel
theorem dX10_next_63 : decode cX10_next 63 = .ok (.aload_n 0, 1) := by decide +kernel
theorem dX10_next_64 : decode cX10_next 64 = .ok (.getfield 253, 3) := by decide +kernel
theorem dX10_next_67 : decode cX10_next 67 = .ok (.bipush 100, 2) := by decide +kernel
theorem dX10_next_69 : decode cX10_next 69 = .ok (.if_icmp .ge 142, 3) := by decide +kernel
theorem dX10_next_72 : decode cX10_next 72 = .ok (.aload_n 0, 1) := by decide +kernel
theorem dX10_next_73 : decode cX10_next 73 = .ok (.getfield 88, 3) := by decide +kernel
theorem dX10_next_76 : decode cX10_next 76 = .ok (.bipush 30, 2) := by decide +kernel
theorem dX10_next_78 : decode cX10_next 78 = .ok (.aload_n 0, 1) := by decide +kernel
theorem dX10_next_79 : decode cX10_next 79 = .ok (.getfield 253, 3) := by decide +kernel
theorem dX10_next_82 : decode cX10_next 82 = .ok (.aload_n 0, 1) := by decide +kernel
theorem dX10_next_83 : decode cX10_next 83 = .ok (.getfield 256, 3) := by decide +kernel
theorem dX10_next_86 : decode cX10_next 86 = .ok (.aload_n 0, 1) := by decide +kernel
theorem dX10_next_87 : decode cX10_next 87 = .ok (.getfield 259, 3) := by decide +kernel
theorem dX10_next_90 : decode cX10_next 90 = .ok (.invokestatic 198, 3) := by decide +kernel
theorem dX10_next_93 : decode cX10_next 93 = .ok (.imul, 1) := by decide +kernel
theorem dX10_next_94 : decode cX10_next 94 = .ok (.aload_n 0, 1) := by decide +kernel
theorem dX10_next_95 : decode cX10_next 95 = .ok (.getfield 103, 3) := by decide +kernel
theorem dX10_next_98 : decode cX10_next 98 = .ok (.aload_n 0, 1) := by decide +kernel
theorem dX10_next_99 : decode cX10_next 99 = .ok (.getfield 247, 3) := by decide +kernel
theorem dX10_next_102 : decode cX10_next 102 = .ok (.iaload, 1) := by decide +kernel
theorem dX10_next_103 : decode cX10_next 103 = .ok (.iadd, 1) := by decide +kernel
theorem dX10_next_104 : decode cX10_next 104 = .ok (.iaload, 1) := by decide +kernel
theorem dX10_next_105 : decode cX10_next 105 = .ok (.istore_n 1, 1) := by decide +kernel
theorem dX10_next_106 : decode cX10_next 106 = .ok (.iload_n 1, 1) := by decide +kernel
theorem dX10_next_107 : decode cX10_next 107 = .ok (.bipush 15, 2) := by decide +kernel
theorem dX10_next_109 : decode cX10_next 109 = .ok (.ishr, 1) := by decide +kernel
theorem dX10_next_110 : decode cX10_next 110 = .ok (.istore_n 2, 1) := by decide +kernel
theorem dX10_next_111 : decode cX10_next 111 = .ok (.iload_n 1, 1) := by decide +kernel
theorem dX10_next_112 : decode cX10_next 112 = .ok (.bipush 10, 2) := by decide +kernel
theorem dX10_next_114 : decode cX10_next 114 = .ok (.ishr, 1) := by decide +kernel
theorem dX10_next_115 : decode cX10_next 115 = .ok (.bipush 31, 2) := by decide +kernel
theorem dX10_next_117 : decode cX10_next 117 = .ok (.iand, 1) := by decide +kernel
theorem dX10_next_118 : decode cX10_next 118 = .ok (.istore_n 3, 1) := by decide +kernel
theorem dX10_next_119 : decode cX10_next 119 = .ok (.iload_n 1, 1) := by decide +kernel
theorem dX10_next_120 : decode cX10_next 120 = .ok (.iconst 5, 1) := by decide +kernel
theorem dX10_next_121 : decode cX10_next 121 = .ok (.ishr, 1) := by decide +kernel
theorem dX10_next_122 : decode cX10_next 122 = .ok (.bipush 31, 2) := by decide +kernel
theorem dX10_next_124 : decode cX10_next 124 = .ok (.iand, 1) := by decide +kernel
theorem dX10_next_125 : decode cX10_next 125 = .ok (.istore 4, 2) := by decide +kernel
theorem dX10_next_127 : decode cX10_next 127 = .ok (.iload_n 1, 1) := by decide +kernel
theorem dX10_next_128 : decode cX10_next 128 = .ok (.bipush 31, 2) := by decide +kernel
theorem dX10_next_130 : decode cX10_next 130 = .ok (.iand, 1) := by decide +kernel
theorem dX10_next_131 : decode cX10_next 131 = .ok (.istore 5, 2) := by decide +kernel
theorem dX10_next_133 : decode cX10_next 133 = .ok (.aload_n 0, 1) := by decide +kernel
theorem dX10_next_134 : decode cX10_next 134 = .ok (.iload_n 2, 1) := by decide +kernel
theorem dX10_next_135 : decode cX10_next 135 = .ok (.putfield 262, 3) := by decide +kernel
theorem dX10_next_138 : decode cX10_next 138 = .ok (.iload_n 3, 1) := by decide +kernel
theorem dX10_next_139 : decode cX10_next 139 = .ok (.ifCond .ne 26, 3) := by decide +kernel
theorem dX10_next_142 : decode cX10_next 142 = .ok (.aload_n 0, 1) := by decide +kernel
theorem dX10_next_143 : decode cX10_next 143 = .ok (.aload_n 0, 1) := by decide +kernel
theorem dX10_next_144 : decode cX10_next 144 = .ok (.getfield 59, 3) := by decide +kernel
theorem dX10_next_147 : decode cX10_next 147 = .ok (.iload_n 2, 1) := by decide +kernel
theorem dX10_next_148 : decode cX10_next 148 = .ok (.iaload, 1) := by decide +kernel
theorem dX10_next_149 : decode cX10_next 149 = .ok (.aload_n 0, 1) := by decide +kernel
theorem dX10_next_150 : decode cX10_next 150 = .ok (.getfield 256, 3) := by decide +kernel
theorem dX10_next_153 : decode cX10_next 153 = .ok (.aload_n 0, 1) := by decide +kernel
theorem dX10_next_154 : decode cX10_next 154 = .ok (.getfield 259, 3) := by decide +kernel
theorem dX10_next_157 : decode cX10_next 157 = .ok (.iload 4, 2) := by decide +kernel
theorem dX10_next_159 : decode cX10_next 159 = .ok (.invokevirtual 250, 3) := by decide +kernel
theorem dX10_next_162 : decode cX10_next 162 = .ok (.goto 49, 3) := by decide +kernel
theorem dX10_next_165 : decode cX10_next 165 = .ok (.aload_n 0, 1) := by decide +kernel
theorem dX10_next_166 : decode cX10_next 166 = .ok (.aload_n 0, 1) := by decide +kernel
theorem dX10_next_167 : decode cX10_next 167 = .ok (.getfield 62, 3) := by decide +kernel
theorem dX10_next_170 : decode cX10_next 170 = .ok (.iload_n 2, 1) := by decide +kernel
theorem dX10_next_171 : decode cX10_next 171 = .ok (.iaload, 1) := by decide +kernel
theorem dX10_next_172 : decode cX10_next 172 = .ok (.aload_n 0, 1) := by decide +kernel
theorem dX10_next_173 : decode cX10_next 173 = .ok (.getfield 256, 3) := by decide +kernel
theorem dX10_next_176 : decode cX10_next 176 = .ok (.iload_n 3, 1) := by decide +kernel
theorem dX10_next_177 : decode cX10_next 177 = .ok (.iadd, 1) := by decide +kernel
theorem dX10_next_178 : decode cX10_next 178 = .ok (.aload_n 0, 1) := by decide +kernel
theorem dX10_next_179 : decode cX10_next 179 = .ok (.getfield 259, 3) := by decide +kernel
theorem dX10_next_182 : decode cX10_next 182 = .ok (.iload 5, 2) := by decide +kernel
theorem dX10_next_184 : decode cX10_next 184 = .ok (.invokevirtual 250, 3) := by decide +kernel
theorem dX10_next_187 : decode cX10_next 187 = .ok (.aload_n 0, 1) := by decide +kernel
theorem dX10_next_188 : decode cX10_next 188 = .ok (.aload_n 0, 1) := by decide +kernel
theorem dX10_next_189 : decode cX10_next 189 = .ok (.getfield 59, 3) := by decide +kernel
theorem dX10_next_192 : decode cX10_next 192 = .ok (.iload_n 2, 1) := by decide +kernel
theorem dX10_next_193 : decode cX10_next 193 = .ok (.iaload, 1) := by decide +kernel
theorem dX10_next_194 : decode cX10_next 194 = .ok (.aload_n 0, 1) := by decide +kernel
theorem dX10_next_195 : decode cX10_next 195 = .ok (.getfield 256, 3) := by decide +kernel
theorem dX10_next_198 : decode cX10_next 198 = .ok (.aload_n 0, 1) := by decide +kernel
theorem dX10_next_199 : decode cX10_next 199 = .ok (.getfield 256, 3) := by decide +kernel
theorem dX10_next_202 : decode cX10_next 202 = .ok (.iload_n 3, 1) := by decide +kernel
theorem dX10_next_203 : decode cX10_next 203 = .ok (.iadd, 1) := by decide +kernel
theorem dX10_next_204 : decode cX10_next 204 = .ok (.iconst 1, 1) := by decide +kernel
theorem dX10_next_205 : decode cX10_next 205 = .ok (.isub, 1) := by decide +kernel
theorem dX10_next_206 : decode cX10_next 206 = .ok (.iload 4, 2) := by decide +kernel
theorem dX10_next_208 : decode cX10_next 208 = .ok (.invokevirtual 250, 3) := by decide +kernel
theorem dX10_next_211 : decode cX10_next 211 = .ok (.iconst 1, 1) := by decide +kernel
theorem dX10_next_212 : decode cX10_next 212 = .ok (.ireturn, 1) := by decide +kernel
theorem dX10_nodeChord_0 : decode cX10_nodeChord 0 = .ok (.aload_n 0, 1) := by decide +kernel
theorem dX10_nodeChord_1 : decode cX10_nodeChord 1 = .ok (.getfield 253, 3) := by decide +kernel
theorem dX10_nodeChord_4 : decode cX10_nodeChord 4 = .ok (.bipush 100, 2) := by decide +kernel
theorem dX10_nodeChord_6 : decode cX10_nodeChord 6 = .ok (.if_icmp .ge 7, 3) := by decide +kernel
theorem dX10_nodeChord_9 : decode cX10_nodeChord 9 = .ok (.iconst (-1), 1) := by decide +kernel
theorem dX10_nodeChord_10 : decode cX10_nodeChord 10 = .ok (.goto 23, 3) := by decide +kernel
theorem dX10_nodeChord_13 : decode cX10_nodeChord 13 = .ok (.aload_n 0, 1) := by decide +kernel
theorem dX10_nodeChord_14 : decode cX10_nodeChord 14 = .ok (.getfield 71, 3) := by decide +kernel
theorem dX10_nodeChord_17 : decode cX10_nodeChord 17 = .ok (.bipush 24, 2) := by decide +kernel
theorem dX10_nodeChord_19 : decode cX10_nodeChord 19 = .ok (.aload_n 0, 1) := by decide +kernel
theorem dX10_nodeChord_20 : decode cX10_nodeChord 20 = .ok (.getfield 253, 3) := by decide +kernel
theorem dX10_nodeChord_23 : decode cX10_nodeChord 23 = .ok (.bipush 100, 2) := by decide +kernel
theorem dX10_nodeChord_25 : decode cX10_nodeChord 25 = .ok (.isub, 1) := by decide +kernel
theorem dX10_nodeChord_26 : decode cX10_nodeChord 26 = .ok (.imul, 1) := by decide +kernel
theorem dX10_nodeChord_27 : decode cX10_nodeChord 27 = .ok (.aload_n 0, 1) := by decide +kernel
theorem dX10_nodeChord_28 : decode cX10_nodeChord 28 = .ok (.getfield 256, 3) := by decide +kernel
theorem dX10_nodeChord_31 : decode cX10_nodeChord 31 = .ok (.iadd, 1) := by decide +kernel
theorem dX10_nodeChord_32 : decode cX10_nodeChord 32 = .ok (.iaload, 1) := by decide +kernel
theorem dX10_nodeChord_33 : decode cX10_nodeChord 33 = .ok (.ireturn, 1) := by decide +kernel
theorem dX10_node_0 : decode cX10_node 0 = .ok (.aload_n 0, 1) := by decide +kernel
theorem dX10_node_1 : decode cX10_node 1 = .ok (.iconst 0, 1) := by decide +kernel
theorem dX10_node_2 : decode cX10_node 2 = .ok (.putfield 106, 3) := by decide +kernel
theorem dX10_node_5 : decode cX10_node 5 = .ok (.aload_n 0, 1) := by decide +kernel
theorem dX10_node_6 : decode cX10_node 6 = .ok (.iload_n 1, 1) := by decide +kernel
theorem dX10_node_7 : decode cX10_node 7 = .ok (.invokevirtual 244, 3) := by decide +kernel
theorem dX10_node_10 : decode cX10_node 10 = .ok (.ifCond .ne 16, 3) := by decide +kernel
theorem dX10_node_13 : decode cX10_node 13 = .ok (.iload_n 2, 1) := by decide +kernel
theorem dX10_node_14 : decode cX10_node 14 = .ok (.ifCond .lt 12, 3) := by decide +kernel
theorem dX10_node_17 : decode cX10_node 17 = .ok (.iload_n 3, 1) := by decide +kernel
theorem dX10_node_18 : decode cX10_node 18 = .ok (.ifCond .lt 8, 3) := by decide +kernel
theorem dX10_node_21 : decode cX10_node 21 = .ok (.iload_n 3, 1) := by decide +kernel
theorem dX10_node_22 : decode cX10_node 22 = .ok (.iconst 3, 1) := by decide +kernel
theorem dX10_node_23 : decode cX10_node 23 = .ok (.if_icmp .le 5, 3) := by decide +kernel
theorem dX10_node_26 : decode cX10_node 26 = .ok (.iconst (-1), 1) := by decide +kernel
theorem dX10_node_27 : decode cX10_node 27 = .ok (.ireturn, 1) := by decide +kernel
theorem dX10_node_28 : decode cX10_node 28 = .ok (.aload_n 0, 1) := by decide +kernel
theorem dX10_node_29 : decode cX10_node 29 = .ok (.iload_n 1, 1) := by decide +kernel
theorem dX10_node_30 : decode cX10_node 30 = .ok (.invokevirtual 265, 3) := by decide +kernel
theorem dX10_node_33 : decode cX10_node 33 = .ok (.aload_n 0, 1) := by decide +kernel
theorem dX10_node_34 : decode cX10_node 34 = .ok (.invokevirtual 268, 3) := by decide +kernel
theorem dX10_node_37 : decode cX10_node 37 = .ok (.istore 4, 2) := by decide +kernel
theorem dX10_node_39 : decode cX10_node 39 = .ok (.iconst 0, 1) := by decide +kernel
theorem dX10_node_40 : decode cX10_node 40 = .ok (.istore 5, 2) := by decide +kernel
theorem dX10_node_42 : decode cX10_node 42 = .ok (.iload 5, 2) := by decide +kernel
theorem dX10_node_44 : decode cX10_node 44 = .ok (.iload_n 2, 1) := by decide +kernel
theorem dX10_node_45 : decode cX10_node 45 = .ok (.if_icmp .ge 20, 3) := by decide +kernel
theorem dX10_node_48 : decode cX10_node 48 = .ok (.iload 4, 2) := by decide +kernel
theorem dX10_node_50 : decode cX10_node 50 = .ok (.ifCond .eq 15, 3) := by decide +kernel
theorem dX10_node_53 : decode cX10_node 53 = .ok (.aload_n 0, 1) := by decide +kernel
theorem dX10_node_54 : decode cX10_node 54 = .ok (.invokevirtual 268, 3) := by decide +kernel
theorem dX10_node_57 : decode cX10_node 57 = .ok (.istore 4, 2) := by decide +kernel
theorem dX10_node_59 : decode cX10_node 59 = .ok (.iinc 5 1, 3) := by decide +kernel
theorem dX10_node_62 : decode cX10_node 62 = .ok (.goto (-20), 3) := by decide +kernel
theorem dX10_node_65 : decode cX10_node 65 = .ok (.iload 4, 2) := by decide +kernel
theorem dX10_node_67 : decode cX10_node 67 = .ok (.ifCond .ne 5, 3) := by decide +kernel
theorem dX10_node_70 : decode cX10_node 70 = .ok (.iconst (-1), 1) := by decide +kernel
theorem dX10_node_71 : decode cX10_node 71 = .ok (.ireturn, 1) := by decide +kernel
theorem dX10_node_72 : decode cX10_node 72 = .ok (.iload_n 3, 1) := by decide +kernel
theorem dX10_node_73 : decode cX10_node 73 = .ok (.ifCond .ne 10, 3) := by decide +kernel
theorem dX10_node_76 : decode cX10_node 76 = .ok (.aload_n 0, 1) := by decide +kernel
theorem dX10_node_77 : decode cX10_node 77 = .ok (.getfield 262, 3) := by decide +kernel
theorem dX10_node_80 : decode cX10_node 80 = .ok (.goto 31, 3) := by decide +kernel
theorem dX10_node_83 : decode cX10_node 83 = .ok (.iload_n 3, 1) := by decide +kernel
theorem dX10_node_84 : decode cX10_node 84 = .ok (.iconst 1, 1) := by decide +kernel
theorem dX10_node_85 : decode cX10_node 85 = .ok (.if_icmp .ne 10, 3) := by decide +kernel
theorem dX10_node_88 : decode cX10_node 88 = .ok (.aload_n 0, 1) := by decide +kernel
theorem dX10_node_89 : decode cX10_node 89 = .ok (.getfield 256, 3) := by decide +kernel
theorem dX10_node_92 : decode cX10_node 92 = .ok (.goto 19, 3) := by decide +kernel
theorem dX10_node_95 : decode cX10_node 95 = .ok (.iload_n 3, 1) := by decide +kernel
theorem dX10_node_96 : decode cX10_node 96 = .ok (.iconst 2, 1) := by decide +kernel
theorem dX10_node_97 : decode cX10_node 97 = .ok (.if_icmp .ne 10, 3) := by decide +kernel
theorem dX10_node_100 : decode cX10_node 100 = .ok (.aload_n 0, 1) := by decide +kernel
theorem dX10_node_101 : decode cX10_node 101 = .ok (.getfield 259, 3) := by decide +kernel
theorem dX10_node_104 : decode cX10_node 104 = .ok (.goto 7, 3) := by decide +kernel
theorem dX10_node_107 : decode cX10_node 107 = .ok (.aload_n 0, 1) := by decide +kernel
theorem dX10_node_108 : decode cX10_node 108 = .ok (.invokevirtual 271, 3) := by decide +kernel
theorem dX10_node_111 : decode cX10_node 111 = .ok (.ireturn, 1) := by decide +kernel
theorem dX10_nodes_0 : decode cX10_nodes 0 = .ok (.aload_n 0, 1) := by decide +kernel
theorem dX10_nodes_1 : decode cX10_nodes 1 = .ok (.iconst 0, 1) := by decide +kernel
theorem dX10_nodes_2 : decode cX10_nodes 2 = .ok (.putfield 106, 3) := by decide +kernel
theorem dX10_nodes_5 : decode cX10_nodes 5 = .ok (.aload_n 0, 1) := by decide +kernel
theorem dX10_nodes_6 : decode cX10_nodes 6 = .ok (.iload_n 1, 1) := by decide +kernel
theorem dX10_nodes_7 : decode cX10_nodes 7 = .ok (.invokevirtual 244, 3) := by decide +kernel
theorem dX10_nodes_10 : decode cX10_nodes 10 = .ok (.ifCond .eq 5, 3) := by decide +kernel
theorem dX10_nodes_13 : decode cX10_nodes 13 = .ok (.iconst (-1), 1) := by decide +kernel
theorem dX10_nodes_14 : decode cX10_nodes 14 = .ok (.ireturn, 1) := by decide +kernel
theorem dX10_nodes_15 : decode cX10_nodes 15 = .ok (.aload_n 0, 1) := by decide +kernel
theorem dX10_nodes_16 : decode cX10_nodes 16 = .ok (.iload_n 1, 1) := by decide +kernel
theorem dX10_nodes_17 : decode cX10_nodes 17 = .ok (.invokevirtual 265, 3) := by decide +kernel
theorem dX10_nodes_20 : decode cX10_nodes 20 = .ok (.iconst 0, 1) := by decide +kernel
theorem dX10_nodes_21 : decode cX10_nodes 21 = .ok (.istore_n 2, 1) := by decide +kernel
theorem dX10_nodes_22 : decode cX10_nodes 22 = .ok (.aload_n 0, 1) := by decide +kernel
theorem dX10_nodes_23 : decode cX10_nodes 23 = .ok (.invokevirtual 268, 3) := by decide +kernel
theorem dX10_nodes_26 : decode cX10_nodes 26 = .ok (.ifCond .eq 9, 3) := by decide +kernel
theorem dX10_nodes_29 : decode cX10_nodes 29 = .ok (.iinc 2 1, 3) := by decide +kernel
theorem dX10_nodes_32 : decode cX10_nodes 32 = .ok (.goto (-10), 3) := by decide +kernel
theorem dX10_nodes_35 : decode cX10_nodes 35 = .ok (.iload_n 2, 1) := by decide +kernel
theorem dX10_nodes_36 : decode cX10_nodes 36 = .ok (.ireturn, 1) := by decide +kernel
theorem dX10_symbolAt_0 : decode cX10_symbolAt 0 = .ok (.aload_n 0, 1) := by decide +kernel
theorem dX10_symbolAt_1 : decode cX10_symbolAt 1 = .ok (.iload_n 1, 1) := by decide +kernel
theorem dX10_symbolAt_2 : decode cX10_symbolAt 2 = .ok (.invokevirtual 265, 3) := by decide +kernel
theorem dX10_symbolAt_5 : decode cX10_symbolAt 5 = .ok (.aload_n 0, 1) := by decide +kernel
theorem dX10_symbolAt_6 : decode cX10_symbolAt 6 = .ok (.invokevirtual 268, 3) := by decide +kernel
theorem dX10_symbolAt_9 : decode cX10_symbolAt 9 = .ok (.ifCond .eq 28, 3) := by decide +kernel
theorem dX10_symbolAt_12 : decode cX10_symbolAt 12 = .ok (.aload_n 0, 1) := by decide +kernel
theorem dX10_symbolAt_13 : decode cX10_symbolAt 13 = .ok (.getfield 253, 3) := by decide +kernel
theorem dX10_symbolAt_16 : decode cX10_symbolAt 16 = .ok (.bipush 100, 2) := by decide +kernel
theorem dX10_symbolAt_18 : decode cX10_symbolAt 18 = .ok (.if_icmp .lt (-13), 3) := by decide +kernel
theorem dX10_symbolAt_21 : decode cX10_symbolAt 21 = .ok (.aload_n 0, 1) := by decide +kernel
theorem dX10_symbolAt_22 : decode cX10_symbolAt 22 = .ok (.getfield 256, 3) := by decide +kernel
theorem dX10_symbolAt_25 : decode cX10_symbolAt 25 = .ok (.iload_n 2, 1) := by decide +kernel
theorem dX10_symbolAt_26 : decode cX10_symbolAt 26 = .ok (.if_icmp .ne (-21), 3) := by decide +kernel
theorem dX10_symbolAt_29 : decode cX10_symbolAt 29 = .ok (.aload_n 0, 1) := by decide +kernel
theorem dX10_symbolAt_30 : decode cX10_symbolAt 30 = .ok (.getfield 253, 3) := by decide +kernel
theorem dX10_symbolAt_33 : decode cX10_symbolAt 33 = .ok (.bipush 100, 2) := by decide +kernel
theorem dX10_symbolAt_35 : decode cX10_symbolAt 35 = .ok (.isub, 1) := by decide +kernel
theorem dX10_symbolAt_36 : decode cX10_symbolAt 36 = .ok (.ireturn, 1) := by decide +kernel
theorem dX10_symbolAt_37 : decode cX10_symbolAt 37 = .ok (.iconst (-1), 1) := by decide +kernel
theorem dX10_symbolAt_38 : decode cX10_symbolAt 38 = .ok (.ireturn, 1) := by decide +kernel
theorem dX10_chord_0 : decode cX10_chord 0 = .ok (.aload_n 0, 1) := by decide +kernel
theorem dX10_chord_1 : decode cX10_chord 1 = .ok (.iconst 0, 1) := by decide +kernel
theorem dX10_chord_2 : decode cX10_chord 2 = .ok (.putfield 106, 3) := by decide +kernel
theorem dX10_chord_5 : decode cX10_chord 5 = .ok (.aload_n 0, 1) := by decide +kernel
theorem dX10_chord_6 : decode cX10_chord 6 = .ok (.iload_n 1, 1) := by decide +kernel
theorem dX10_chord_7 : decode cX10_chord 7 = .ok (.invokevirtual 244, 3) := by decide +kernel
theorem dX10_chord_10 : decode cX10_chord 10 = .ok (.ifCond .ne 15, 3) := by decide +kernel
theorem dX10_chord_13 : decode cX10_chord 13 = .ok (.iload_n 2, 1) := by decide +kernel
theorem dX10_chord_14 : decode cX10_chord 14 = .ok (.ifCond .lt 11, 3) := by decide +kernel
theorem dX10_chord_17 : decode cX10_chord 17 = .ok (.iload_n 2, 1) := by decide +kernel
theorem dX10_chord_18 : decode cX10_chord 18 = .ok (.aload_n 0, 1) := by decide +kernel
theorem dX10_chord_19 : decode cX10_chord 19 = .ok (.getfield 192, 3) := by decide +kernel
theorem dX10_chord_22 : decode cX10_chord 22 = .ok (.if_icmp .lt 5, 3) := by decide +kernel
theorem dX10_chord_25 : decode cX10_chord 25 = .ok (.iconst (-1), 1) := by decide +kernel
theorem dX10_chord_26 : decode cX10_chord 26 = .ok (.ireturn, 1) := by decide +kernel
theorem dX10_chord_27 : decode cX10_chord 27 = .ok (.aload_n 0, 1) := by decide +kernel
theorem dX10_chord_28 : decode cX10_chord 28 = .ok (.getfield 71, 3) := by decide +kernel
theorem dX10_chord_31 : decode cX10_chord 31 = .ok (.bipush 24, 2) := by decide +kernel
theorem dX10_chord_33 : decode cX10_chord 33 = .ok (.aload_n 0, 1) := by decide +kernel
theorem dX10_chord_34 : decode cX10_chord 34 = .ok (.iload_n 1, 1) := by decide +kernel
theorem dX10_chord_35 : decode cX10_chord 35 = .ok (.iload_n 2, 1) := by decide +kernel
theorem dX10_chord_36 : decode cX10_chord 36 = .ok (.invokevirtual 274, 3) := by decide +kernel
theorem dX10_chord_39 : decode cX10_chord 39 = .ok (.imul, 1) := by decide +kernel
theorem dX10_chord_40 : decode cX10_chord 40 = .ok (.iload_n 2, 1) := by decide +kernel
theorem dX10_chord_41 : decode cX10_chord 41 = .ok (.iadd, 1) := by decide +kernel
theorem dX10_chord_42 : decode cX10_chord 42 = .ok (.iaload, 1) := by decide +kernel
theorem dX10_chord_43 : decode cX10_chord 43 = .ok (.ireturn, 1) := by decide +kernel
theorem dX10_cadence_0 : decode cX10_cadence 0 = .ok (.aload_n 0, 1) := by decide +kernel
theorem dX10_cadence_1 : decode cX10_cadence 1 = .ok (.iconst 0, 1) := by decide +kernel
theorem dX10_cadence_2 : decode cX10_cadence 2 = .ok (.putfield 106, 3) := by decide +kernel
theorem dX10_cadence_5 : decode cX10_cadence 5 = .ok (.aload_n 0, 1) := by decide +kernel
theorem dX10_cadence_6 : decode cX10_cadence 6 = .ok (.iload_n 1, 1) := by decide +kernel
theorem dX10_cadence_7 : decode cX10_cadence 7 = .ok (.invokevirtual 244, 3) := by decide +kernel
theorem dX10_cadence_10 : decode cX10_cadence 10 = .ok (.ifCond .eq 5, 3) := by decide +kernel
theorem dX10_cadence_13 : decode cX10_cadence 13 = .ok (.iconst (-1), 1) := by decide +kernel
theorem dX10_cadence_14 : decode cX10_cadence 14 = .ok (.ireturn, 1) := by decide +kernel
theorem dX10_cadence_15 : decode cX10_cadence 15 = .ok (.aload_n 0, 1) := by decide +kernel
theorem dX10_cadence_16 : decode cX10_cadence 16 = .ok (.iload_n 1, 1) := by decide +kernel
theorem dX10_cadence_17 : decode cX10_cadence 17 = .ok (.aload_n 0, 1) := by decide +kernel
theorem dX10_cadence_18 : decode cX10_cadence 18 = .ok (.getfield 192, 3) := by decide +kernel
theorem dX10_cadence_21 : decode cX10_cadence 21 = .ok (.iconst 1, 1) := by decide +kernel
theorem dX10_cadence_22 : decode cX10_cadence 22 = .ok (.isub, 1) := by decide +kernel
theorem dX10_cadence_23 : decode cX10_cadence 23 = .ok (.invokevirtual 274, 3) := by decide +kernel
theorem dX10_cadence_26 : decode cX10_cadence 26 = .ok (.bipush 10, 2) := by decide +kernel
theorem dX10_cadence_28 : decode cX10_cadence 28 = .ok (.idiv, 1) := by decide +kernel
theorem dX10_cadence_29 : decode cX10_cadence 29 = .ok (.istore_n 2, 1) := by decide +kernel
theorem dX10_cadence_30 : decode cX10_cadence 30 = .ok (.aload_n 0, 1) := by decide +kernel
theorem dX10_cadence_31 : decode cX10_cadence 31 = .ok (.getfield 192, 3) := by decide +kernel
theorem dX10_cadence_34 : decode cX10_cadence 34 = .ok (.iconst 2, 1) := by decide +kernel
theorem dX10_cadence_35 : decode cX10_cadence 35 = .ok (.if_icmp .ge 7, 3) := by decide +kernel
theorem dX10_cadence_38 : decode cX10_cadence 38 = .ok (.iconst 0, 1) := by decide +kernel
theorem dX10_cadence_39 : decode cX10_cadence 39 = .ok (.goto 17, 3) := by decide +kernel
theorem dX10_cadence_42 : decode cX10_cadence 42 = .ok (.aload_n 0, 1) := by decide +kernel
theorem dX10_cadence_43 : decode cX10_cadence 43 = .ok (.iload_n 1, 1) := by decide +kernel
theorem dX10_cadence_44 : decode cX10_cadence 44 = .ok (.aload_n 0, 1) := by decide +kernel
theorem dX10_cadence_45 : decode cX10_cadence 45 = .ok (.getfield 192, 3) := by decide +kernel
theorem dX10_cadence_48 : decode cX10_cadence 48 = .ok (.iconst 2, 1) := by decide +kernel
theorem dX10_cadence_49 : decode cX10_cadence 49 = .ok (.isub, 1) := by decide +kernel
theorem dX10_cadence_50 : decode cX10_cadence 50 = .ok (.invokevirtual 274, 3) := by decide +kernel
theorem dX10_cadence_53 : decode cX10_cadence 53 = .ok (.bipush 10, 2) := by decide +kernel
theorem dX10_cadence_55 : decode cX10_cadence 55 = .ok (.idiv, 1) := by decide +kernel
theorem dX10_cadence_56 : decode cX10_cadence 56 = .ok (.istore_n 3, 1) := by decide +kernel
theorem dX10_cadence_57 : decode cX10_cadence 57 = .ok (.iload_n 2, 1) := by decide +kernel
theorem dX10_cadence_58 : decode cX10_cadence 58 = .ok (.iconst 1, 1) := by decide +kernel
theorem dX10_cadence_59 : decode cX10_cadence 59 = .ok (.if_icmp .ne 12, 3) := by decide +kernel
theorem dX10_cadence_62 : decode cX10_cadence 62 = .ok (.iload_n 3, 1) := by decide +kernel
theorem dX10_cadence_63 : decode cX10_cadence 63 = .ok (.iconst 5, 1) := by decide +kernel
theorem dX10_cadence_64 : decode cX10_cadence 64 = .ok (.if_icmp .ne 7, 3) := by decide +kernel
theorem dX10_cadence_67 : decode cX10_cadence 67 = .ok (.iconst 1, 1) := by decide +kernel
theorem dX10_cadence_68 : decode cX10_cadence 68 = .ok (.goto 42, 3) := by decide +kernel
theorem dX10_cadence_71 : decode cX10_cadence 71 = .ok (.iload_n 2, 1) := by decide +kernel
theorem dX10_cadence_72 : decode cX10_cadence 72 = .ok (.iconst 1, 1) := by decide +kernel
theorem dX10_cadence_73 : decode cX10_cadence 73 = .ok (.if_icmp .ne 12, 3) := by decide +kernel
theorem dX10_cadence_76 : decode cX10_cadence 76 = .ok (.iload_n 3, 1) := by decide +kernel
theorem dX10_cadence_77 : decode cX10_cadence 77 = .ok (.iconst 4, 1) := by decide +kernel
theorem dX10_cadence_78 : decode cX10_cadence 78 = .ok (.if_icmp .ne 7, 3) := by decide +kernel
theorem dX10_cadence_81 : decode cX10_cadence 81 = .ok (.iconst 2, 1) := by decide +kernel
theorem dX10_cadence_82 : decode cX10_cadence 82 = .ok (.goto 28, 3) := by decide +kernel
theorem dX10_cadence_85 : decode cX10_cadence 85 = .ok (.iload_n 2, 1) := by decide +kernel
theorem dX10_cadence_86 : decode cX10_cadence 86 = .ok (.iconst 5, 1) := by decide +kernel
theorem dX10_cadence_87 : decode cX10_cadence 87 = .ok (.if_icmp .ne 7, 3) := by decide +kernel
theorem dX10_cadence_90 : decode cX10_cadence 90 = .ok (.iconst 3, 1) := by decide +kernel
theorem dX10_cadence_91 : decode cX10_cadence 91 = .ok (.goto 19, 3) := by decide +kernel
theorem dX10_cadence_94 : decode cX10_cadence 94 = .ok (.iload_n 2, 1) := by decide +kernel
theorem dX10_cadence_95 : decode cX10_cadence 95 = .ok (.bipush 6, 2) := by decide +kernel
theorem dX10_cadence_97 : decode cX10_cadence 97 = .ok (.if_icmp .ne 12, 3) := by decide +kernel
theorem dX10_cadence_100 : decode cX10_cadence 100 = .ok (.iload_n 3, 1) := by decide +kernel
theorem dX10_cadence_101 : decode cX10_cadence 101 = .ok (.iconst 5, 1) := by decide +kernel
theorem dX10_cadence_102 : decode cX10_cadence 102 = .ok (.if_icmp .ne 7, 3) := by decide +kernel
theorem dX10_cadence_105 : decode cX10_cadence 105 = .ok (.iconst 4, 1) := by decide +kernel
theorem dX10_cadence_106 : decode cX10_cadence 106 = .ok (.goto 4, 3) := by decide +kernel
theorem dX10_cadence_109 : decode cX10_cadence 109 = .ok (.iconst 0, 1) := by decide +kernel
theorem dX10_cadence_110 : decode cX10_cadence 110 = .ok (.ireturn, 1) := by decide +kernel
theorem dX10_isStep_0 : decode cX10_isStep 0 = .ok (.iload_n 0, 1) := by decide +kernel
theorem dX10_isStep_1 : decode cX10_isStep 1 = .ok (.iconst 1, 1) := by decide +kernel
theorem dX10_isStep_2 : decode cX10_isStep 2 = .ok (.if_icmp .eq 19, 3) := by decide +kernel
theorem dX10_isStep_5 : decode cX10_isStep 5 = .ok (.iload_n 0, 1) := by decide +kernel
theorem dX10_isStep_6 : decode cX10_isStep 6 = .ok (.iconst 2, 1) := by decide +kernel
theorem dX10_isStep_7 : decode cX10_isStep 7 = .ok (.if_icmp .eq 14, 3) := by decide +kernel
theorem dX10_isStep_10 : decode cX10_isStep 10 = .ok (.iload_n 0, 1) := by decide +kernel
theorem dX10_isStep_11 : decode cX10_isStep 11 = .ok (.iconst (-1), 1) := by decide +kernel
theorem dX10_isStep_12 : decode cX10_isStep 12 = .ok (.if_icmp .eq 9, 3) := by decide +kernel
theorem dX10_isStep_15 : decode cX10_isStep 15 = .ok (.iload_n 0, 1) := by decide +kernel
theorem dX10_isStep_16 : decode cX10_isStep 16 = .ok (.bipush (-2), 2) := by decide +kernel
theorem dX10_isStep_18 : decode cX10_isStep 18 = .ok (.if_icmp .ne 7, 3) := by decide +kernel
theorem dX10_isStep_21 : decode cX10_isStep 21 = .ok (.iconst 1, 1) := by decide +kernel
theorem dX10_isStep_22 : decode cX10_isStep 22 = .ok (.goto 4, 3) := by decide +kernel
theorem dX10_isStep_25 : decode cX10_isStep 25 = .ok (.iconst 0, 1) := by decide +kernel
theorem dX10_isStep_26 : decode cX10_isStep 26 = .ok (.ireturn, 1) := by decide +kernel
theorem dX10_isMore_0 : decode cX10_isMore 0 = .ok (.iload_n 0, 1) := by decide +kernel
theorem dX10_isMore_1 : decode cX10_isMore 1 = .ok (.iconst 2, 1) := by decide +kernel
theorem dX10_isMore_2 : decode cX10_isMore 2 = .ok (.if_icmp .gt 9, 3) := by decide +kernel
theorem dX10_isMore_5 : decode cX10_isMore 5 = .ok (.iload_n 0, 1) := by decide +kernel
theorem dX10_isMore_6 : decode cX10_isMore 6 = .ok (.bipush (-2), 2) := by decide +kernel
theorem dX10_isMore_8 : decode cX10_isMore 8 = .ok (.if_icmp .ge 7, 3) := by decide +kernel
theorem dX10_isMore_11 : decode cX10_isMore 11 = .ok (.iconst 1, 1) := by decide +kernel
theorem dX10_isMore_12 : decode cX10_isMore 12 = .ok (.goto 4, 3) := by decide +kernel
theorem dX10_isMore_15 : decode cX10_isMore 15 = .ok (.iconst 0, 1) := by decide +kernel
theorem dX10_isMore_16 : decode cX10_isMore 16 = .ok (.ireturn, 1) := by decide +kernel
theorem dX10_isTurned_0 : decode cX10_isTurned 0 = .ok (.iload_n 0, 1) := by decide +kernel
theorem dX10_isTurned_1 : decode cX10_isTurned 1 = .ok (.ifCond .le 7, 3) := by decide +kernel
theorem dX10_isTurned_4 : decode cX10_isTurned 4 = .ok (.iload_n 1, 1) := by decide +kernel
theorem dX10_isTurned_5 : decode cX10_isTurned 5 = .ok (.ifCond .lt 11, 3) := by decide +kernel
theorem dX10_isTurned_8 : decode cX10_isTurned 8 = .ok (.iload_n 0, 1) := by decide +kernel
theorem dX10_isTurned_9 : decode cX10_isTurned 9 = .ok (.ifCond .ge 11, 3) := by decide +kernel
theorem dX10_isTurned_12 : decode cX10_isTurned 12 = .ok (.iload_n 1, 1) := by decide +kernel
theorem dX10_isTurned_13 : decode cX10_isTurned 13 = .ok (.ifCond .le 7, 3) := by decide +kernel
theorem dX10_isTurned_16 : decode cX10_isTurned 16 = .ok (.iconst 1, 1) := by decide +kernel
theorem dX10_isTurned_17 : decode cX10_isTurned 17 = .ok (.goto 4, 3) := by decide +kernel
theorem dX10_isTurned_20 : decode cX10_isTurned 20 = .ok (.iconst 0, 1) := by decide +kernel
theorem dX10_isTurned_21 : decode cX10_isTurned 21 = .ok (.ireturn, 1) := by decide +kernel
theorem dX10_melody_0 : decode cX10_melody 0 = .ok (.aload_n 0, 1) := by decide +kernel
theorem dX10_melody_1 : decode cX10_melody 1 = .ok (.iconst 0, 1) := by decide +kernel
theorem dX10_melody_2 : decode cX10_melody 2 = .ok (.putfield 106, 3) := by decide +kernel
theorem dX10_melody_5 : decode cX10_melody 5 = .ok (.aload_n 0, 1) := by decide +kernel
theorem dX10_melody_6 : decode cX10_melody 6 = .ok (.iload_n 1, 1) := by decide +kernel
theorem dX10_melody_7 : decode cX10_melody 7 = .ok (.invokevirtual 244, 3) := by decide +kernel
theorem dX10_melody_10 : decode cX10_melody 10 = .ok (.ifCond .ne 24, 3) := by decide +kernel
theorem dX10_melody_13 : decode cX10_melody 13 = .ok (.iload_n 2, 1) := by decide +kernel
theorem dX10_melody_14 : decode cX10_melody 14 = .ok (.ifCond .lt 20, 3) := by decide +kernel
theorem dX10_melody_17 : decode cX10_melody 17 = .ok (.iload_n 2, 1) := by decide +kernel
theorem dX10_melody_18 : decode cX10_melody 18 = .ok (.aload_n 0, 1) := by decide +kernel
theorem dX10_melody_19 : decode cX10_melody 19 = .ok (.getfield 192, 3) := by decide +kernel
theorem dX10_melody_22 : decode cX10_melody 22 = .ok (.if_icmp .ge 12, 3) := by decide +kernel
theorem dX10_melody_25 : decode cX10_melody 25 = .ok (.aload_n 0, 1) := by decide +kernel
theorem dX10_melody_26 : decode cX10_melody 26 = .ok (.getfield 68, 3) := by decide +kernel
theorem dX10_melody_29 : decode cX10_melody 29 = .ok (.iload_n 2, 1) := by decide +kernel
theorem dX10_melody_30 : decode cX10_melody 30 = .ok (.iaload, 1) := by decide +kernel
theorem dX10_melody_31 : decode cX10_melody 31 = .ok (.ifCond .ge 5, 3) := by decide +kernel
theorem dX10_melody_34 : decode cX10_melody 34 = .ok (.iconst (-1), 1) := by decide +kernel
theorem dX10_melody_35 : decode cX10_melody 35 = .ok (.ireturn, 1) := by decide +kernel
theorem dX10_melody_36 : decode cX10_melody 36 = .ok (.aload_n 0, 1) := by decide +kernel
theorem dX10_melody_37 : decode cX10_melody 37 = .ok (.getfield 68, 3) := by decide +kernel
theorem dX10_melody_40 : decode cX10_melody 40 = .ok (.iload_n 2, 1) := by decide +kernel
theorem dX10_melody_41 : decode cX10_melody 41 = .ok (.iaload, 1) := by decide +kernel
theorem dX10_melody_42 : decode cX10_melody 42 = .ok (.istore_n 3, 1) := by decide +kernel
theorem dX10_melody_43 : decode cX10_melody 43 = .ok (.aload_n 0, 1) := by decide +kernel
theorem dX10_melody_44 : decode cX10_melody 44 = .ok (.getfield 71, 3) := by decide +kernel
theorem dX10_melody_47 : decode cX10_melody 47 = .ok (.bipush 24, 2) := by decide +kernel
theorem dX10_melody_49 : decode cX10_melody 49 = .ok (.aload_n 0, 1) := by decide +kernel
theorem dX10_melody_50 : decode cX10_melody 50 = .ok (.iload_n 1, 1) := by decide +kernel
theorem dX10_melody_51 : decode cX10_melody 51 = .ok (.iload_n 2, 1) := by decide +kernel
theorem dX10_melody_52 : decode cX10_melody 52 = .ok (.invokevirtual 274, 3) := by decide +kernel
theorem dX10_melody_55 : decode cX10_melody 55 = .ok (.imul, 1) := by decide +kernel
theorem dX10_melody_56 : decode cX10_melody 56 = .ok (.iload_n 2, 1) := by decide +kernel
theorem dX10_melody_57 : decode cX10_melody 57 = .ok (.iadd, 1) := by decide +kernel
theorem dX10_melody_58 : decode cX10_melody 58 = .ok (.iaload, 1) := by decide +kernel
theorem dX10_melody_59 : decode cX10_melody 59 = .ok (.istore 4, 2) := by decide +kernel
theorem dX10_melody_61 : decode cX10_melody 61 = .ok (.iload 4, 2) := by decide +kernel
theorem dX10_melody_63 : decode cX10_melody 63 = .ok (.bipush 12, 2) := by decide +kernel
theorem dX10_melody_65 : decode cX10_melody 65 = .ok (.irem, 1) := by decide +kernel
theorem dX10_melody_66 : decode cX10_melody 66 = .ok (.iload 4, 2) := by decide +kernel
theorem dX10_melody_68 : decode cX10_melody 68 = .ok (.bipush 12, 2) := by decide +kernel
theorem dX10_melody_70 : decode cX10_melody 70 = .ok (.idiv, 1) := by decide +kernel
theorem dX10_melody_71 : decode cX10_melody 71 = .ok (.invokestatic 181, 3) := by decide +kernel
theorem dX10_melody_74 : decode cX10_melody 74 = .ok (.iload_n 3, 1) := by decide +kernel
theorem dX10_melody_75 : decode cX10_melody 75 = .ok (.bipush 12, 2) := by decide +kernel
theorem dX10_melody_77 : decode cX10_melody 77 = .ok (.irem, 1) := by decide +kernel
theorem dX10_melody_78 : decode cX10_melody 78 = .ok (.ishr, 1) := by decide +kernel
theorem dX10_melody_79 : decode cX10_melody 79 = .ok (.iconst 1, 1) := by decide +kernel
theorem dX10_melody_80 : decode cX10_melody 80 = .ok (.iand, 1) := by decide +kernel
theorem dX10_melody_81 : decode cX10_melody 81 = .ok (.iconst 1, 1) := by decide +kernel
theorem dX10_melody_82 : decode cX10_melody 82 = .ok (.if_icmp .ne 5, 3) := by decide +kernel
theorem dX10_melody_85 : decode cX10_melody 85 = .ok (.iconst 0, 1) := by decide +kernel
theorem dX10_melody_86 : decode cX10_melody 86 = .ok (.ireturn, 1) := by decide +kernel
theorem dX10_melody_87 : decode cX10_melody 87 = .ok (.iload_n 2, 1) := by decide +kernel
theorem dX10_melody_88 : decode cX10_melody 88 = .ok (.ifCond .le 26, 3) := by decide +kernel
theorem dX10_melody_91 : decode cX10_melody 91 = .ok (.aload_n 0, 1) := by decide +kernel
theorem dX10_melody_92 : decode cX10_melody 92 = .ok (.getfield 68, 3) := by decide +kernel
theorem dX10_melody_95 : decode cX10_melody 95 = .ok (.iload_n 2, 1) := by decide +kernel
theorem dX10_melody_96 : decode cX10_melody 96 = .ok (.ifCond .le 9, 3) := by decide +kernel
theorem dX10_melody_99 : decode cX10_melody 99 = .ok (.iload_n 2, 1) := by decide +kernel
theorem dX10_melody_100 : decode cX10_melody 100 = .ok (.iconst 1, 1) := by decide +kernel
theorem dX10_melody_101 : decode cX10_melody 101 = .ok (.isub, 1) := by decide +kernel
theorem dX10_melody_102 : decode cX10_melody 102 = .ok (.goto 4, 3) := by decide +kernel
theorem dX10_melody_105 : decode cX10_melody 105 = .ok (.iconst 0, 1) := by decide +kernel
theorem dX10_melody_106 : decode cX10_melody 106 = .ok (.iaload, 1) := by decide +kernel
theorem dX10_melody_107 : decode cX10_melody 107 = .ok (.ifCond .lt 7, 3) := by decide +kernel
theorem dX10_melody_110 : decode cX10_melody 110 = .ok (.iconst 1, 1) := by decide +kernel
theorem dX10_melody_111 : decode cX10_melody 111 = .ok (.goto 4, 3) := by decide +kernel
theorem dX10_melody_114 : decode cX10_melody 114 = .ok (.iconst 0, 1) := by decide +kernel
theorem dX10_melody_115 : decode cX10_melody 115 = .ok (.istore 5, 2) := by decide +kernel
theorem dX10_melody_117 : decode cX10_melody 117 = .ok (.iload_n 2, 1) := by decide +kernel
theorem dX10_melody_118 : decode cX10_melody 118 = .ok (.iconst 1, 1) := by decide +kernel
theorem dX10_melody_119 : decode cX10_melody 119 = .ok (.iadd, 1) := by decide +kernel
theorem dX10_melody_120 : decode cX10_melody 120 = .ok (.aload_n 0, 1) := by decide +kernel
theorem dX10_melody_121 : decode cX10_melody 121 = .ok (.getfield 192, 3) := by decide +kernel
theorem dX10_melody_124 : decode cX10_melody 124 = .ok (.if_icmp .ge 32, 3) := by decide +kernel
theorem dX10_melody_127 : decode cX10_melody 127 = .ok (.aload_n 0, 1) := by decide +kernel
theorem dX10_melody_128 : decode cX10_melody 128 = .ok (.getfield 68, 3) := by decide +kernel
theorem dX10_melody_131 : decode cX10_melody 131 = .ok (.iload_n 2, 1) := by decide +kernel
theorem dX10_melody_132 : decode cX10_melody 132 = .ok (.iconst 1, 1) := by decide +kernel
theorem dX10_melody_133 : decode cX10_melody 133 = .ok (.iadd, 1) := by decide +kernel
theorem dX10_melody_134 : decode cX10_melody 134 = .ok (.aload_n 0, 1) := by decide +kernel
theorem dX10_melody_135 : decode cX10_melody 135 = .ok (.getfield 192, 3) := by decide +kernel
theorem dX10_melody_138 : decode cX10_melody 138 = .ok (.if_icmp .ge 9, 3) := by decide +kernel
theorem dX10_melody_141 : decode cX10_melody 141 = .ok (.iload_n 2, 1) := by decide +kernel
theorem dX10_melody_142 : decode cX10_melody 142 = .ok (.iconst 1, 1) := by decide +kernel
theorem dX10_melody_143 : decode cX10_melody 143 = .ok (.iadd, 1) := by decide +kernel
theorem dX10_melody_144 : decode cX10_melody 144 = .ok (.goto 4, 3) := by decide +kernel
theorem dX10_melody_147 : decode cX10_melody 147 = .ok (.iconst 0, 1) := by decide +kernel
theorem dX10_melody_148 : decode cX10_melody 148 = .ok (.iaload, 1) := by decide +kernel
theorem dX10_melody_149 : decode cX10_melody 149 = .ok (.ifCond .lt 7, 3) := by decide +kernel
theorem dX10_melody_152 : decode cX10_melody 152 = .ok (.iconst 1, 1) := by decide +kernel
theorem dX10_melody_153 : decode cX10_melody 153 = .ok (.goto 4, 3) := by decide +kernel
theorem dX10_melody_156 : decode cX10_melody 156 = .ok (.iconst 0, 1) := by decide +kernel
theorem dX10_melody_157 : decode cX10_melody 157 = .ok (.istore 6, 2) := by decide +kernel
theorem dX10_melody_159 : decode cX10_melody 159 = .ok (.iload 5, 2) := by decide +kernel
theorem dX10_melody_161 : decode cX10_melody 161 = .ok (.ifCond .eq 16, 3) := by decide +kernel
theorem dX10_melody_164 : decode cX10_melody 164 = .ok (.iload_n 3, 1) := by decide +kernel
theorem dX10_melody_165 : decode cX10_melody 165 = .ok (.aload_n 0, 1) := by decide +kernel
theorem dX10_melody_166 : decode cX10_melody 166 = .ok (.getfield 68, 3) := by decide +kernel
theorem dX10_melody_169 : decode cX10_melody 169 = .ok (.iload_n 2, 1) := by decide +kernel
theorem dX10_melody_170 : decode cX10_melody 170 = .ok (.iconst 1, 1) := by decide +kernel
theorem dX10_melody_171 : decode cX10_melody 171 = .ok (.isub, 1) := by decide +kernel
theorem dX10_melody_172 : decode cX10_melody 172 = .ok (.iaload, 1) := by decide +kernel
theorem dX10_melody_173 : decode cX10_melody 173 = .ok (.isub, 1) := by decide +kernel
theorem dX10_melody_174 : decode cX10_melody 174 = .ok (.goto 4, 3) := by decide +kernel
theorem dX10_melody_177 : decode cX10_melody 177 = .ok (.iconst 0, 1) := by decide +kernel
theorem dX10_melody_178 : decode cX10_melody 178 = .ok (.istore 7, 2) := by decide +kernel
theorem dX10_melody_180 : decode cX10_melody 180 = .ok (.iload 6, 2) := by decide +kernel
theorem dX10_melody_182 : decode cX10_melody 182 = .ok (.ifCond .eq 16, 3) := by decide +kernel
theorem dX10_melody_185 : decode cX10_melody 185 = .ok (.aload_n 0, 1) := by decide +kernel
theorem dX10_melody_186 : decode cX10_melody 186 = .ok (.getfield 68, 3) := by decide +kernel
theorem dX10_melody_189 : decode cX10_melody 189 = .ok (.iload_n 2, 1) := by decide +kernel
theorem dX10_melody_190 : decode cX10_melody 190 = .ok (.iconst 1, 1) := by decide +kernel
theorem dX10_melody_191 : decode cX10_melody 191 = .ok (.iadd, 1) := by decide +kernel
theorem dX10_melody_192 : decode cX10_melody 192 = .ok (.iaload, 1) := by decide +kernel
theorem dX10_melody_193 : decode cX10_melody 193 = .ok (.iload_n 3, 1) := by decide +kernel
theorem dX10_melody_194 : decode cX10_melody 194 = .ok (.isub, 1) := by decide +kernel
theorem dX10_melody_195 : decode cX10_melody 195 = .ok (.goto 4, 3) := by decide +kernel
theorem dX10_melody_198 : decode cX10_melody 198 = .ok (.iconst 0, 1) := by decide +kernel
theorem dX10_melody_199 : decode cX10_melody 199 = .ok (.istore 8, 2) := by decide +kernel
theorem dX10_melody_201 : decode cX10_melody 201 = .ok (.iload 5, 2) := by decide +kernel
theorem dX10_melody_203 : decode cX10_melody 203 = .ok (.ifCond .eq 12, 3) := by decide +kernel
theorem dX10_melody_206 : decode cX10_melody 206 = .ok (.iload 6, 2) := by decide +kernel
theorem dX10_melody_208 : decode cX10_melody 208 = .ok (.ifCond .eq 7, 3) := by decide +kernel
theorem dX10_melody_211 : decode cX10_melody 211 = .ok (.iconst 1, 1) := by decide +kernel
theorem dX10_melody_212 : decode cX10_melody 212 = .ok (.goto 4, 3) := by decide +kernel
theorem dX10_melody_215 : decode cX10_melody 215 = .ok (.iconst 0, 1) := by decide +kernel
theorem dX10_melody_216 : decode cX10_melody 216 = .ok (.istore 9, 2) := by decide +kernel
theorem dX10_melody_218 : decode cX10_melody 218 = .ok (.iload 9, 2) := by decide +kernel
theorem dX10_melody_220 : decode cX10_melody 220 = .ok (.ifCond .eq 31, 3) := by decide +kernel
theorem dX10_melody_223 : decode cX10_melody 223 = .ok (.iload 7, 2) := by decide +kernel
theorem dX10_melody_225 : decode cX10_melody 225 = .ok (.invokestatic 277, 3) := by decide +kernel
theorem dX10_melody_228 : decode cX10_melody 228 = .ok (.ifCond .eq 23, 3) := by decide +kernel
theorem dX10_melody_231 : decode cX10_melody 231 = .ok (.iload 8, 2) := by decide +kernel
theorem dX10_melody_233 : decode cX10_melody 233 = .ok (.invokestatic 277, 3) := by decide +kernel
theorem dX10_melody_236 : decode cX10_melody 236 = .ok (.ifCond .eq 15, 3) := by decide +kernel
theorem dX10_melody_239 : decode cX10_melody 239 = .ok (.iload 7, 2) := by decide +kernel
theorem dX10_melody_241 : decode cX10_melody 241 = .ok (.iload 8, 2) := by decide +kernel
theorem dX10_melody_243 : decode cX10_melody 243 = .ok (.invokestatic 280, 3) := by decide +kernel
theorem dX10_melody_246 : decode cX10_melody 246 = .ok (.ifCond .ne 5, 3) := by decide +kernel
theorem dX10_melody_249 : decode cX10_melody 249 = .ok (.iconst 1, 1) := by decide +kernel
theorem dX10_melody_250 : decode cX10_melody 250 = .ok (.ireturn, 1) := by decide +kernel
theorem dX10_melody_251 : decode cX10_melody 251 = .ok (.iload 9, 2) := by decide +kernel
theorem dX10_melody_253 : decode cX10_melody 253 = .ok (.ifCond .eq 21, 3) := by decide +kernel
theorem dX10_melody_256 : decode cX10_melody 256 = .ok (.iload 7, 2) := by decide +kernel
theorem dX10_melody_258 : decode cX10_melody 258 = .ok (.invokestatic 277, 3) := by decide +kernel
theorem dX10_melody_261 : decode cX10_melody 261 = .ok (.ifCond .eq 13, 3) := by decide +kernel
theorem dX10_melody_264 : decode cX10_melody 264 = .ok (.iload 8, 2) := by decide +kernel
theorem dX10_melody_266 : decode cX10_melody 266 = .ok (.iload 7, 2) := by decide +kernel
theorem dX10_melody_268 : decode cX10_melody 268 = .ok (.ineg, 1) := by decide +kernel
theorem dX10_melody_269 : decode cX10_melody 269 = .ok (.if_icmp .ne 5, 3) := by decide +kernel
theorem dX10_melody_272 : decode cX10_melody 272 = .ok (.iconst 2, 1) := by decide +kernel
theorem dX10_melody_273 : decode cX10_melody 273 = .ok (.ireturn, 1) := by decide +kernel
theorem dX10_melody_274 : decode cX10_melody 274 = .ok (.iload 9, 2) := by decide +kernel
theorem dX10_melody_276 : decode cX10_melody 276 = .ok (.ifCond .eq 23, 3) := by decide +kernel
theorem dX10_melody_279 : decode cX10_melody 279 = .ok (.iload 7, 2) := by decide +kernel
theorem dX10_melody_281 : decode cX10_melody 281 = .ok (.ifCond .ne 18, 3) := by decide +kernel
theorem dX10_melody_284 : decode cX10_melody 284 = .ok (.iload 8, 2) := by decide +kernel
theorem dX10_melody_286 : decode cX10_melody 286 = .ok (.iconst (-1), 1) := by decide +kernel
theorem dX10_melody_287 : decode cX10_melody 287 = .ok (.if_icmp .eq 10, 3) := by decide +kernel
theorem dX10_melody_290 : decode cX10_melody 290 = .ok (.iload 8, 2) := by decide +kernel
theorem dX10_melody_292 : decode cX10_melody 292 = .ok (.bipush (-2), 2) := by decide +kernel
theorem dX10_melody_294 : decode cX10_melody 294 = .ok (.if_icmp .ne 5, 3) := by decide +kernel
theorem dX10_melody_297 : decode cX10_melody 297 = .ok (.iconst 3, 1) := by decide +kernel
theorem dX10_melody_298 : decode cX10_melody 298 = .ok (.ireturn, 1) := by decide +kernel
theorem dX10_melody_299 : decode cX10_melody 299 = .ok (.iload 6, 2) := by decide +kernel
theorem dX10_melody_301 : decode cX10_melody 301 = .ok (.ifCond .eq 10, 3) := by decide +kernel
theorem dX10_melody_304 : decode cX10_melody 304 = .ok (.iload 8, 2) := by decide +kernel
theorem dX10_melody_306 : decode cX10_melody 306 = .ok (.ifCond .ne 5, 3) := by decide +kernel
theorem dX10_melody_309 : decode cX10_melody 309 = .ok (.iconst 4, 1) := by decide +kernel
theorem dX10_melody_310 : decode cX10_melody 310 = .ok (.ireturn, 1) := by decide +kernel
theorem dX10_melody_311 : decode cX10_melody 311 = .ok (.iload 9, 2) := by decide +kernel
theorem dX10_melody_313 : decode cX10_melody 313 = .ok (.ifCond .eq 31, 3) := by decide +kernel
theorem dX10_melody_316 : decode cX10_melody 316 = .ok (.iload 7, 2) := by decide +kernel
theorem dX10_melody_318 : decode cX10_melody 318 = .ok (.invokestatic 284, 3) := by decide +kernel
theorem dX10_melody_321 : decode cX10_melody 321 = .ok (.ifCond .eq 23, 3) := by decide +kernel
theorem dX10_melody_324 : decode cX10_melody 324 = .ok (.iload 8, 2) := by decide +kernel
theorem dX10_melody_326 : decode cX10_melody 326 = .ok (.invokestatic 277, 3) := by decide +kernel
theorem dX10_melody_329 : decode cX10_melody 329 = .ok (.ifCond .eq 15, 3) := by decide +kernel
theorem dX10_melody_332 : decode cX10_melody 332 = .ok (.iload 7, 2) := by decide +kernel
theorem dX10_melody_334 : decode cX10_melody 334 = .ok (.iload 8, 2) := by decide +kernel
theorem dX10_melody_336 : decode cX10_melody 336 = .ok (.invokestatic 280, 3) := by decide +kernel
theorem dX10_melody_339 : decode cX10_melody 339 = .ok (.ifCond .eq 5, 3) := by decide +kernel
theorem dX10_melody_342 : decode cX10_melody 342 = .ok (.iconst 5, 1) := by decide +kernel
theorem dX10_melody_343 : decode cX10_melody 343 = .ok (.ireturn, 1) := by decide +kernel
theorem dX10_melody_344 : decode cX10_melody 344 = .ok (.iload 9, 2) := by decide +kernel
theorem dX10_melody_346 : decode cX10_melody 346 = .ok (.ifCond .eq 34, 3) := by decide +kernel
theorem dX10_melody_349 : decode cX10_melody 349 = .ok (.iload 7, 2) := by decide +kernel
theorem dX10_melody_351 : decode cX10_melody 351 = .ok (.invokestatic 277, 3) := by decide +kernel
theorem dX10_melody_354 : decode cX10_melody 354 = .ok (.ifCond .eq 26, 3) := by decide +kernel
theorem dX10_melody_357 : decode cX10_melody 357 = .ok (.iload 8, 2) := by decide +kernel
theorem dX10_melody_359 : decode cX10_melody 359 = .ok (.invokestatic 284, 3) := by decide +kernel
theorem dX10_melody_362 : decode cX10_melody 362 = .ok (.ifCond .eq 18, 3) := by decide +kernel
theorem dX10_melody_365 : decode cX10_melody 365 = .ok (.iload 7, 2) := by decide +kernel
theorem dX10_melody_367 : decode cX10_melody 367 = .ok (.iload 8, 2) := by decide +kernel
theorem dX10_melody_369 : decode cX10_melody 369 = .ok (.invokestatic 280, 3) := by decide +kernel
theorem dX10_melody_372 : decode cX10_melody 372 = .ok (.ifCond .eq 8, 3) := by decide +kernel
theorem dX10_melody_375 : decode cX10_melody 375 = .ok (.bipush 6, 2) := by decide +kernel
theorem dX10_melody_377 : decode cX10_melody 377 = .ok (.goto 5, 3) := by decide +kernel
theorem dX10_melody_380 : decode cX10_melody 380 = .ok (.bipush 7, 2) := by decide +kernel
theorem dX10_melody_382 : decode cX10_melody 382 = .ok (.ireturn, 1) := by decide +kernel
theorem dX10_cell_0 : decode cX10_cell 0 = .ok (.aload_n 0, 1) := by decide +kernel
theorem dX10_cell_1 : decode cX10_cell 1 = .ok (.iload_n 1, 1) := by decide +kernel
theorem dX10_cell_2 : decode cX10_cell 2 = .ok (.ifCond .lt 26, 3) := by decide +kernel
theorem dX10_cell_5 : decode cX10_cell 5 = .ok (.iload_n 1, 1) := by decide +kernel
theorem dX10_cell_6 : decode cX10_cell 6 = .ok (.iload_n 2, 1) := by decide +kernel
theorem dX10_cell_7 : decode cX10_cell 7 = .ok (.if_icmp .gt 21, 3) := by decide +kernel
theorem dX10_cell_10 : decode cX10_cell 10 = .ok (.iload_n 2, 1) := by decide +kernel
theorem dX10_cell_11 : decode cX10_cell 11 = .ok (.aload_n 0, 1) := by decide +kernel
theorem dX10_cell_12 : decode cX10_cell 12 = .ok (.getfield 192, 3) := by decide +kernel
theorem dX10_cell_15 : decode cX10_cell 15 = .ok (.if_icmp .ge 13, 3) := by decide +kernel
theorem dX10_cell_18 : decode cX10_cell 18 = .ok (.iload_n 3, 1) := by decide +kernel
theorem dX10_cell_19 : decode cX10_cell 19 = .ok (.ifCond .lt 9, 3) := by decide +kernel
theorem dX10_cell_22 : decode cX10_cell 22 = .ok (.iload_n 3, 1) := by decide +kernel
theorem dX10_cell_23 : decode cX10_cell 23 = .ok (.bipush 25, 2) := by decide +kernel
theorem dX10_cell_25 : decode cX10_cell 25 = .ok (.if_icmp .le 7, 3) := by decide +kernel
theorem dX10_cell_28 : decode cX10_cell 28 = .ok (.iconst 1, 1) := by decide +kernel
theorem dX10_cell_29 : decode cX10_cell 29 = .ok (.goto 4, 3) := by decide +kernel
theorem dX10_cell_32 : decode cX10_cell 32 = .ok (.iconst 0, 1) := by decide +kernel
theorem dX10_cell_33 : decode cX10_cell 33 = .ok (.putfield 106, 3) := by decide +kernel
theorem dX10_cell_36 : decode cX10_cell 36 = .ok (.aload_n 0, 1) := by decide +kernel
theorem dX10_cell_37 : decode cX10_cell 37 = .ok (.getfield 106, 3) := by decide +kernel
theorem dX10_cell_40 : decode cX10_cell 40 = .ok (.ifCond .le 7, 3) := by decide +kernel
theorem dX10_cell_43 : decode cX10_cell 43 = .ok (.lconst 0, 1) := by decide +kernel
theorem dX10_cell_44 : decode cX10_cell 44 = .ok (.goto 14, 3) := by decide +kernel
theorem dX10_cell_47 : decode cX10_cell 47 = .ok (.aload_n 0, 1) := by decide +kernel
theorem dX10_cell_48 : decode cX10_cell 48 = .ok (.getfield 80, 3) := by decide +kernel
theorem dX10_cell_51 : decode cX10_cell 51 = .ok (.iload_n 3, 1) := by decide +kernel
theorem dX10_cell_52 : decode cX10_cell 52 = .ok (.iload_n 1, 1) := by decide +kernel
theorem dX10_cell_53 : decode cX10_cell 53 = .ok (.iload_n 2, 1) := by decide +kernel
theorem dX10_cell_54 : decode cX10_cell 54 = .ok (.invokestatic 198, 3) := by decide +kernel
theorem dX10_cell_57 : decode cX10_cell 57 = .ok (.laload, 1) := by decide +kernel
theorem dX10_cell_58 : decode cX10_cell 58 = .ok (.lreturn, 1) := by decide +kernel
theorem dX10_told_0 : decode cX10_told 0 = .ok (.aload_n 0, 1) := by decide +kernel
theorem dX10_told_1 : decode cX10_told 1 = .ok (.iconst 0, 1) := by decide +kernel
theorem dX10_told_2 : decode cX10_told 2 = .ok (.putfield 106, 3) := by decide +kernel
theorem dX10_told_5 : decode cX10_told 5 = .ok (.iload_n 1, 1) := by decide +kernel
theorem dX10_told_6 : decode cX10_told 6 = .ok (.tableswitch 59 0 4 #[34, 39, 44, 49, 54], 34) := by decide +kernel
theorem dX10_told_40 : decode cX10_told 40 = .ok (.aload_n 0, 1) := by decide +kernel
theorem dX10_told_41 : decode cX10_told 41 = .ok (.getfield 175, 3) := by decide +kernel
theorem dX10_told_44 : decode cX10_told 44 = .ok (.ireturn, 1) := by decide +kernel
theorem dX10_told_45 : decode cX10_told 45 = .ok (.aload_n 0, 1) := by decide +kernel
theorem dX10_told_46 : decode cX10_told 46 = .ok (.getfield 172, 3) := by decide +kernel
theorem dX10_told_49 : decode cX10_told 49 = .ok (.ireturn, 1) := by decide +kernel
theorem dX10_told_50 : decode cX10_told 50 = .ok (.aload_n 0, 1) := by decide +kernel
theorem dX10_told_51 : decode cX10_told 51 = .ok (.getfield 117, 3) := by decide +kernel
theorem dX10_told_54 : decode cX10_told 54 = .ok (.ireturn, 1) := by decide +kernel
theorem dX10_told_55 : decode cX10_told 55 = .ok (.aload_n 0, 1) := by decide +kernel
theorem dX10_told_56 : decode cX10_told 56 = .ok (.invokevirtual 238, 3) := by decide +kernel
theorem dX10_told_59 : decode cX10_told 59 = .ok (.ireturn, 1) := by decide +kernel
theorem dX10_told_60 : decode cX10_told 60 = .ok (.aload_n 0, 1) := by decide +kernel
theorem dX10_told_61 : decode cX10_told 61 = .ok (.getfield 192, 3) := by decide +kernel
theorem dX10_told_64 : decode cX10_told 64 = .ok (.ireturn, 1) := by decide +kernel
theorem dX10_told_65 : decode cX10_told 65 = .ok (.iconst (-1), 1) := by decide +kernel
theorem dX10_told_66 : decode cX10_told 66 = .ok (.ireturn, 1) := by decide +kernel
theorem dJx00060_init_a7421_0 : decode cJx00060_init_a7421 0 = .ok (.aload_n 0, 1) := by decide +kernel
theorem dJx00060_init_a7421_1 : decode cJx00060_init_a7421 1 = .ok (.aload_n 1, 1) := by decide +kernel
theorem dJx00060_init_a7421_2 : decode cJx00060_init_a7421 2 = .ok (.invokespecial 7, 3) := by decide +kernel
theorem dJx00060_init_a7421_5 : decode cJx00060_init_a7421 5 = .ok (.return_, 1) := by decide +kernel
theorem dJ11_isValidCodePoint_9a6ad_0 : decode cJ11_isValidCodePoint_9a6ad 0 = .ok (.iload_n 0, 1) := by decide +kernel
theorem dJ11_isValidCodePoint_9a6ad_1 : decode cJ11_isValidCodePoint_9a6ad 1 = .ok (.bipush 16, 2) := by decide +kernel
theorem dJ11_isValidCodePoint_9a6ad_3 : decode cJ11_isValidCodePoint_9a6ad 3 = .ok (.iushr, 1) := by decide +kernel
theorem dJ11_isValidCodePoint_9a6ad_4 : decode cJ11_isValidCodePoint_9a6ad 4 = .ok (.istore_n 1, 1) := by decide +kernel
theorem dJ11_isValidCodePoint_9a6ad_5 : decode cJ11_isValidCodePoint_9a6ad 5 = .ok (.iload_n 1, 1) := by decide +kernel
theorem dJ11_isValidCodePoint_9a6ad_6 : decode cJ11_isValidCodePoint_9a6ad 6 = .ok (.bipush 17, 2) := by decide +kernel
theorem dJ11_isValidCodePoint_9a6ad_8 : decode cJ11_isValidCodePoint_9a6ad 8 = .ok (.if_icmp .ge 7, 3) := by decide +kernel
theorem dJ11_isValidCodePoint_9a6ad_11 : decode cJ11_isValidCodePoint_9a6ad 11 = .ok (.iconst 1, 1) := by decide +kernel
theorem dJ11_isValidCodePoint_9a6ad_12 : decode cJ11_isValidCodePoint_9a6ad 12 = .ok (.goto 4, 3) := by decide +kernel
theorem dJ11_isValidCodePoint_9a6ad_15 : decode cJ11_isValidCodePoint_9a6ad 15 = .ok (.iconst 0, 1) := by decide +kernel
theorem dJ11_isValidCodePoint_9a6ad_16 : decode cJ11_isValidCodePoint_9a6ad 16 = .ok (.ireturn, 1) := by decide +kernel
theorem dJ11_highSurrogate_5068e_0 : decode cJ11_highSurrogate_5068e 0 = .ok (.iload_n 0, 1) := by decide +kernel
theorem dJ11_highSurrogate_5068e_1 : decode cJ11_highSurrogate_5068e 1 = .ok (.bipush 10, 2) := by decide +kernel
theorem dJ11_highSurrogate_5068e_3 : decode cJ11_highSurrogate_5068e 3 = .ok (.iushr, 1) := by decide +kernel
theorem dJ11_highSurrogate_5068e_4 : decode cJ11_highSurrogate_5068e 4 = .ok (.ldc 110, 2) := by decide +kernel
theorem dJ11_highSurrogate_5068e_6 : decode cJ11_highSurrogate_5068e 6 = .ok (.iadd, 1) := by decide +kernel
theorem dJ11_highSurrogate_5068e_7 : decode cJ11_highSurrogate_5068e 7 = .ok (.i2c, 1) := by decide +kernel
theorem dJ11_highSurrogate_5068e_8 : decode cJ11_highSurrogate_5068e 8 = .ok (.ireturn, 1) := by decide +kernel
theorem dJ11_lowSurrogate_5068e_0 : decode cJ11_lowSurrogate_5068e 0 = .ok (.iload_n 0, 1) := by decide +kernel
theorem dJ11_lowSurrogate_5068e_1 : decode cJ11_lowSurrogate_5068e 1 = .ok (.sipush 1023, 3) := by decide +kernel
theorem dJ11_lowSurrogate_5068e_4 : decode cJ11_lowSurrogate_5068e 4 = .ok (.iand, 1) := by decide +kernel
theorem dJ11_lowSurrogate_5068e_5 : decode cJ11_lowSurrogate_5068e 5 = .ok (.ldc 76, 2) := by decide +kernel
theorem dJ11_lowSurrogate_5068e_7 : decode cJ11_lowSurrogate_5068e 7 = .ok (.iadd, 1) := by decide +kernel
theorem dJ11_lowSurrogate_5068e_8 : decode cJ11_lowSurrogate_5068e 8 = .ok (.i2c, 1) := by decide +kernel
theorem dJ11_lowSurrogate_5068e_9 : decode cJ11_lowSurrogate_5068e 9 = .ok (.ireturn, 1) := by decide +kernel
theorem dJ6_bitCount_0f7a4_0 : decode cJ6_bitCount_0f7a4 0 = .ok (.iload_n 0, 1) := by decide +kernel
theorem dJ6_bitCount_0f7a4_1 : decode cJ6_bitCount_0f7a4 1 = .ok (.iload_n 0, 1) := by decide +kernel
theorem dJ6_bitCount_0f7a4_2 : decode cJ6_bitCount_0f7a4 2 = .ok (.iconst 1, 1) := by decide +kernel
theorem dJ6_bitCount_0f7a4_3 : decode cJ6_bitCount_0f7a4 3 = .ok (.iushr, 1) := by decide +kernel
theorem dJ6_bitCount_0f7a4_4 : decode cJ6_bitCount_0f7a4 4 = .ok (.ldc_w 265, 3) := by decide +kernel
theorem dJ6_bitCount_0f7a4_7 : decode cJ6_bitCount_0f7a4 7 = .ok (.iand, 1) := by decide +kernel
theorem dJ6_bitCount_0f7a4_8 : decode cJ6_bitCount_0f7a4 8 = .ok (.isub, 1) := by decide +kernel
theorem dJ6_bitCount_0f7a4_9 : decode cJ6_bitCount_0f7a4 9 = .ok (.istore_n 0, 1) := by decide +kernel
theorem dJ6_bitCount_0f7a4_10 : decode cJ6_bitCount_0f7a4 10 = .ok (.iload_n 0, 1) := by decide +kernel
theorem dJ6_bitCount_0f7a4_11 : decode cJ6_bitCount_0f7a4 11 = .ok (.ldc_w 266, 3) := by decide +kernel
theorem dJ6_bitCount_0f7a4_14 : decode cJ6_bitCount_0f7a4 14 = .ok (.iand, 1) := by decide +kernel
theorem dJ6_bitCount_0f7a4_15 : decode cJ6_bitCount_0f7a4 15 = .ok (.iload_n 0, 1) := by decide +kernel
theorem dJ6_bitCount_0f7a4_16 : decode cJ6_bitCount_0f7a4 16 = .ok (.iconst 2, 1) := by decide +kernel
theorem dJ6_bitCount_0f7a4_17 : decode cJ6_bitCount_0f7a4 17 = .ok (.iushr, 1) := by decide +kernel
theorem dJ6_bitCount_0f7a4_18 : decode cJ6_bitCount_0f7a4 18 = .ok (.ldc_w 266, 3) := by decide +kernel
theorem dJ6_bitCount_0f7a4_21 : decode cJ6_bitCount_0f7a4 21 = .ok (.iand, 1) := by decide +kernel
theorem dJ6_bitCount_0f7a4_22 : decode cJ6_bitCount_0f7a4 22 = .ok (.iadd, 1) := by decide +kernel
theorem dJ6_bitCount_0f7a4_23 : decode cJ6_bitCount_0f7a4 23 = .ok (.istore_n 0, 1) := by decide +kernel
theorem dJ6_bitCount_0f7a4_24 : decode cJ6_bitCount_0f7a4 24 = .ok (.iload_n 0, 1) := by decide +kernel
theorem dJ6_bitCount_0f7a4_25 : decode cJ6_bitCount_0f7a4 25 = .ok (.iload_n 0, 1) := by decide +kernel
theorem dJ6_bitCount_0f7a4_26 : decode cJ6_bitCount_0f7a4 26 = .ok (.iconst 4, 1) := by decide +kernel
theorem dJ6_bitCount_0f7a4_27 : decode cJ6_bitCount_0f7a4 27 = .ok (.iushr, 1) := by decide +kernel
theorem dJ6_bitCount_0f7a4_28 : decode cJ6_bitCount_0f7a4 28 = .ok (.iadd, 1) := by decide +kernel
theorem dJ6_bitCount_0f7a4_29 : decode cJ6_bitCount_0f7a4 29 = .ok (.ldc_w 267, 3) := by decide +kernel
theorem dJ6_bitCount_0f7a4_32 : decode cJ6_bitCount_0f7a4 32 = .ok (.iand, 1) := by decide +kernel
theorem dJ6_bitCount_0f7a4_33 : decode cJ6_bitCount_0f7a4 33 = .ok (.istore_n 0, 1) := by decide +kernel
theorem dJ6_bitCount_0f7a4_34 : decode cJ6_bitCount_0f7a4 34 = .ok (.iload_n 0, 1) := by decide +kernel
theorem dJ6_bitCount_0f7a4_35 : decode cJ6_bitCount_0f7a4 35 = .ok (.iload_n 0, 1) := by decide +kernel
theorem dJ6_bitCount_0f7a4_36 : decode cJ6_bitCount_0f7a4 36 = .ok (.bipush 8, 2) := by decide +kernel
theorem dJ6_bitCount_0f7a4_38 : decode cJ6_bitCount_0f7a4 38 = .ok (.iushr, 1) := by decide +kernel
theorem dJ6_bitCount_0f7a4_39 : decode cJ6_bitCount_0f7a4 39 = .ok (.iadd, 1) := by decide +kernel
theorem dJ6_bitCount_0f7a4_40 : decode cJ6_bitCount_0f7a4 40 = .ok (.istore_n 0, 1) := by decide +kernel
theorem dJ6_bitCount_0f7a4_41 : decode cJ6_bitCount_0f7a4 41 = .ok (.iload_n 0, 1) := by decide +kernel
theorem dJ6_bitCount_0f7a4_42 : decode cJ6_bitCount_0f7a4 42 = .ok (.iload_n 0, 1) := by decide +kernel
theorem dJ6_bitCount_0f7a4_43 : decode cJ6_bitCount_0f7a4 43 = .ok (.bipush 16, 2) := by decide +kernel
theorem dJ6_bitCount_0f7a4_45 : decode cJ6_bitCount_0f7a4 45 = .ok (.iushr, 1) := by decide +kernel
theorem dJ6_bitCount_0f7a4_46 : decode cJ6_bitCount_0f7a4 46 = .ok (.iadd, 1) := by decide +kernel
theorem dJ6_bitCount_0f7a4_47 : decode cJ6_bitCount_0f7a4 47 = .ok (.istore_n 0, 1) := by decide +kernel
theorem dJ6_bitCount_0f7a4_48 : decode cJ6_bitCount_0f7a4 48 = .ok (.iload_n 0, 1) := by decide +kernel
theorem dJ6_bitCount_0f7a4_49 : decode cJ6_bitCount_0f7a4 49 = .ok (.bipush 63, 2) := by decide +kernel
theorem dJ6_bitCount_0f7a4_51 : decode cJ6_bitCount_0f7a4 51 = .ok (.iand, 1) := by decide +kernel
theorem dJ6_bitCount_0f7a4_52 : decode cJ6_bitCount_0f7a4 52 = .ok (.ireturn, 1) := by decide +kernel
theorem dJ9_max_7cf53_0 : decode cJ9_max_7cf53 0 = .ok (.iload_n 0, 1) := by decide +kernel
theorem dJ9_max_7cf53_1 : decode cJ9_max_7cf53 1 = .ok (.iload_n 1, 1) := by decide +kernel
theorem dJ9_max_7cf53_2 : decode cJ9_max_7cf53 2 = .ok (.if_icmp .lt 7, 3) := by decide +kernel
theorem dJ9_max_7cf53_5 : decode cJ9_max_7cf53 5 = .ok (.iload_n 0, 1) := by decide +kernel
theorem dJ9_max_7cf53_6 : decode cJ9_max_7cf53 6 = .ok (.goto 4, 3) := by decide +kernel
theorem dJ9_max_7cf53_9 : decode cJ9_max_7cf53 9 = .ok (.iload_n 1, 1) := by decide +kernel
theorem dJ9_max_7cf53_10 : decode cJ9_max_7cf53 10 = .ok (.ireturn, 1) := by decide +kernel
theorem dJ9_min_7cf53_0 : decode cJ9_min_7cf53 0 = .ok (.iload_n 0, 1) := by decide +kernel
theorem dJ9_min_7cf53_1 : decode cJ9_min_7cf53 1 = .ok (.iload_n 1, 1) := by decide +kernel
theorem dJ9_min_7cf53_2 : decode cJ9_min_7cf53 2 = .ok (.if_icmp .gt 7, 3) := by decide +kernel
theorem dJ9_min_7cf53_5 : decode cJ9_min_7cf53 5 = .ok (.iload_n 0, 1) := by decide +kernel
theorem dJ9_min_7cf53_6 : decode cJ9_min_7cf53 6 = .ok (.goto 4, 3) := by decide +kernel
theorem dJ9_min_7cf53_9 : decode cJ9_min_7cf53 9 = .ok (.iload_n 1, 1) := by decide +kernel
theorem dJ9_min_7cf53_10 : decode cJ9_min_7cf53 10 = .ok (.ireturn, 1) := by decide +kernel
theorem dJ0_length_8abf5_0 : decode cJ0_length_8abf5 0 = .ok (.aload_n 0, 1) := by decide +kernel
theorem dJ0_length_8abf5_1 : decode cJ0_length_8abf5 1 = .ok (.getfield 9, 3) := by decide +kernel
theorem dJ0_length_8abf5_4 : decode cJ0_length_8abf5 4 = .ok (.arraylength, 1) := by decide +kernel
theorem dJ0_length_8abf5_5 : decode cJ0_length_8abf5 5 = .ok (.aload_n 0, 1) := by decide +kernel
theorem dJ0_length_8abf5_6 : decode cJ0_length_8abf5 6 = .ok (.invokevirtual 335, 3) := by decide +kernel
theorem dJ0_length_8abf5_9 : decode cJ0_length_8abf5 9 = .ok (.ishr, 1) := by decide +kernel
theorem dJ0_length_8abf5_10 : decode cJ0_length_8abf5 10 = .ok (.ireturn, 1) := by decide +kernel
theorem dJ0_indexOf_0f7a4_0 : decode cJ0_indexOf_0f7a4 0 = .ok (.aload_n 0, 1) := by decide +kernel
theorem dJ0_indexOf_0f7a4_1 : decode cJ0_indexOf_0f7a4 1 = .ok (.iload_n 1, 1) := by decide +kernel
theorem dJ0_indexOf_0f7a4_2 : decode cJ0_indexOf_0f7a4 2 = .ok (.iconst 0, 1) := by decide +kernel
theorem dJ0_indexOf_0f7a4_3 : decode cJ0_indexOf_0f7a4 3 = .ok (.invokevirtual 633, 3) := by decide +kernel
theorem dJ0_indexOf_0f7a4_6 : decode cJ0_indexOf_0f7a4 6 = .ok (.ireturn, 1) := by decide +kernel
theorem dJ0_indexOf_7cf53_0 : decode cJ0_indexOf_7cf53 0 = .ok (.aload_n 0, 1) := by decide +kernel
theorem dJ0_indexOf_7cf53_1 : decode cJ0_indexOf_7cf53 1 = .ok (.invokevirtual 492, 3) := by decide +kernel
theorem dJ0_indexOf_7cf53_4 : decode cJ0_indexOf_7cf53 4 = .ok (.ifCond .eq 19, 3) := by decide +kernel
theorem dJ0_indexOf_7cf53_7 : decode cJ0_indexOf_7cf53 7 = .ok (.aload_n 0, 1) := by decide +kernel
theorem dJ0_indexOf_7cf53_8 : decode cJ0_indexOf_7cf53 8 = .ok (.getfield 9, 3) := by decide +kernel
theorem dJ0_indexOf_7cf53_11 : decode cJ0_indexOf_7cf53 11 = .ok (.iload_n 1, 1) := by decide +kernel
theorem dJ0_indexOf_7cf53_12 : decode cJ0_indexOf_7cf53 12 = .ok (.iload_n 2, 1) := by decide +kernel
theorem dJ0_indexOf_7cf53_13 : decode cJ0_indexOf_7cf53 13 = .ok (.aload_n 0, 1) := by decide +kernel
theorem dJ0_indexOf_7cf53_14 : decode cJ0_indexOf_7cf53 14 = .ok (.invokevirtual 505, 3) := by decide +kernel
theorem dJ0_indexOf_7cf53_17 : decode cJ0_indexOf_7cf53 17 = .ok (.invokestatic 637, 3) := by decide +kernel
theorem dJ0_indexOf_7cf53_20 : decode cJ0_indexOf_7cf53 20 = .ok (.goto 16, 3) := by decide +kernel
theorem dJ0_indexOf_7cf53_23 : decode cJ0_indexOf_7cf53 23 = .ok (.aload_n 0, 1) := by decide +kernel
theorem dJ0_indexOf_7cf53_24 : decode cJ0_indexOf_7cf53 24 = .ok (.getfield 9, 3) := by decide +kernel
theorem dJ0_indexOf_7cf53_27 : decode cJ0_indexOf_7cf53 27 = .ok (.iload_n 1, 1) := by decide +kernel
theorem dJ0_indexOf_7cf53_28 : decode cJ0_indexOf_7cf53 28 = .ok (.iload_n 2, 1) := by decide +kernel
theorem dJ0_indexOf_7cf53_29 : decode cJ0_indexOf_7cf53 29 = .ok (.aload_n 0, 1) := by decide +kernel
theorem dJ0_indexOf_7cf53_30 : decode cJ0_indexOf_7cf53 30 = .ok (.invokevirtual 505, 3) := by decide +kernel
theorem dJ0_indexOf_7cf53_33 : decode cJ0_indexOf_7cf53 33 = .ok (.invokestatic 640, 3) := by decide +kernel
theorem dJ0_indexOf_7cf53_36 : decode cJ0_indexOf_7cf53 36 = .ok (.ireturn, 1) := by decide +kernel
theorem dJ0_coder_7d493_0 : decode cJ0_coder_7d493 0 = .ok (.getstatic 38, 3) := by decide +kernel
theorem dJ0_coder_7d493_3 : decode cJ0_coder_7d493 3 = .ok (.ifCond .eq 10, 3) := by decide +kernel
theorem dJ0_coder_7d493_6 : decode cJ0_coder_7d493 6 = .ok (.aload_n 0, 1) := by decide +kernel
theorem dJ0_coder_7d493_7 : decode cJ0_coder_7d493 7 = .ok (.getfield 15, 3) := by decide +kernel
theorem dJ0_coder_7d493_10 : decode cJ0_coder_7d493 10 = .ok (.goto 4, 3) := by decide +kernel
theorem dJ0_coder_7d493_13 : decode cJ0_coder_7d493 13 = .ok (.iconst 1, 1) := by decide +kernel
theorem dJ0_coder_7d493_14 : decode cJ0_coder_7d493 14 = .ok (.ireturn, 1) := by decide +kernel
theorem dJ0_isLatin1_aae02_0 : decode cJ0_isLatin1_aae02 0 = .ok (.getstatic 38, 3) := by decide +kernel
theorem dJ0_isLatin1_aae02_3 : decode cJ0_isLatin1_aae02 3 = .ok (.ifCond .eq 14, 3) := by decide +kernel
theorem dJ0_isLatin1_aae02_6 : decode cJ0_isLatin1_aae02 6 = .ok (.aload_n 0, 1) := by decide +kernel
theorem dJ0_isLatin1_aae02_7 : decode cJ0_isLatin1_aae02 7 = .ok (.getfield 15, 3) := by decide +kernel
theorem dJ0_isLatin1_aae02_10 : decode cJ0_isLatin1_aae02 10 = .ok (.ifCond .ne 7, 3) := by decide +kernel
theorem dJ0_isLatin1_aae02_13 : decode cJ0_isLatin1_aae02 13 = .ok (.iconst 1, 1) := by decide +kernel
theorem dJ0_isLatin1_aae02_14 : decode cJ0_isLatin1_aae02 14 = .ok (.goto 4, 3) := by decide +kernel
theorem dJ0_isLatin1_aae02_17 : decode cJ0_isLatin1_aae02 17 = .ok (.iconst 0, 1) := by decide +kernel
theorem dJ0_isLatin1_aae02_18 : decode cJ0_isLatin1_aae02 18 = .ok (.ireturn, 1) := by decide +kernel
theorem dJ0_checkBoundsBeginEnd_23922_0 : decode cJ0_checkBoundsBeginEnd_23922 0 = .ok (.iload_n 0, 1) := by decide +kernel
theorem dJ0_checkBoundsBeginEnd_23922_1 : decode cJ0_checkBoundsBeginEnd_23922 1 = .ok (.iload_n 1, 1) := by decide +kernel
theorem dJ0_checkBoundsBeginEnd_23922_2 : decode cJ0_checkBoundsBeginEnd_23922 2 = .ok (.iload_n 2, 1) := by decide +kernel
theorem dJ0_checkBoundsBeginEnd_23922_3 : decode cJ0_checkBoundsBeginEnd_23922 3 = .ok (.getstatic 1053, 3) := by decide +kernel
theorem dJ0_checkBoundsBeginEnd_23922_6 : decode cJ0_checkBoundsBeginEnd_23922 6 = .ok (.invokestatic 1062, 3) := by decide +kernel
theorem dJ0_checkBoundsBeginEnd_23922_9 : decode cJ0_checkBoundsBeginEnd_23922 9 = .ok (.pop, 1) := by decide +kernel
theorem dJ0_checkBoundsBeginEnd_23922_10 : decode cJ0_checkBoundsBeginEnd_23922 10 = .ok (.return_, 1) := by decide +kernel
theorem dJ1_canEncode_9a6ad_0 : decode cJ1_canEncode_9a6ad 0 = .ok (.iload_n 0, 1) := by decide +kernel
theorem dJ1_canEncode_9a6ad_1 : decode cJ1_canEncode_9a6ad 1 = .ok (.ifCond .lt 14, 3) := by decide +kernel
theorem dJ1_canEncode_9a6ad_4 : decode cJ1_canEncode_9a6ad 4 = .ok (.iload_n 0, 1) := by decide +kernel
theorem dJ1_canEncode_9a6ad_5 : decode cJ1_canEncode_9a6ad 5 = .ok (.sipush 255, 3) := by decide +kernel
theorem dJ1_canEncode_9a6ad_8 : decode cJ1_canEncode_9a6ad 8 = .ok (.if_icmp .gt 7, 3) := by decide +kernel
theorem dJ1_canEncode_9a6ad_11 : decode cJ1_canEncode_9a6ad 11 = .ok (.iconst 1, 1) := by decide +kernel
theorem dJ1_canEncode_9a6ad_12 : decode cJ1_canEncode_9a6ad 12 = .ok (.goto 4, 3) := by decide +kernel
theorem dJ1_canEncode_9a6ad_15 : decode cJ1_canEncode_9a6ad 15 = .ok (.iconst 0, 1) := by decide +kernel
theorem dJ1_canEncode_9a6ad_16 : decode cJ1_canEncode_9a6ad 16 = .ok (.ireturn, 1) := by decide +kernel
theorem dJ1_indexOf_4cfef_0 : decode cJ1_indexOf_4cfef 0 = .ok (.iload_n 1, 1) := by decide +kernel
theorem dJ1_indexOf_4cfef_1 : decode cJ1_indexOf_4cfef 1 = .ok (.invokestatic 88, 3) := by decide +kernel
theorem dJ1_indexOf_4cfef_4 : decode cJ1_indexOf_4cfef 4 = .ok (.ifCond .ne 5, 3) := by decide +kernel
theorem dJ1_indexOf_4cfef_7 : decode cJ1_indexOf_4cfef 7 = .ok (.iconst (-1), 1) := by decide +kernel
theorem dJ1_indexOf_4cfef_8 : decode cJ1_indexOf_4cfef 8 = .ok (.ireturn, 1) := by decide +kernel
theorem dJ1_indexOf_4cfef_9 : decode cJ1_indexOf_4cfef 9 = .ok (.iload_n 2, 1) := by decide +kernel
theorem dJ1_indexOf_4cfef_10 : decode cJ1_indexOf_4cfef 10 = .ok (.iconst 0, 1) := by decide +kernel
theorem dJ1_indexOf_4cfef_11 : decode cJ1_indexOf_4cfef 11 = .ok (.invokestatic 92, 3) := by decide +kernel
theorem dJ1_indexOf_4cfef_14 : decode cJ1_indexOf_4cfef 14 = .ok (.istore_n 2, 1) := by decide +kernel
theorem dJ1_indexOf_4cfef_15 : decode cJ1_indexOf_4cfef 15 = .ok (.iload_n 3, 1) := by decide +kernel
theorem dJ1_indexOf_4cfef_16 : decode cJ1_indexOf_4cfef 16 = .ok (.aload_n 0, 1) := by decide +kernel
theorem dJ1_indexOf_4cfef_17 : decode cJ1_indexOf_4cfef 17 = .ok (.arraylength, 1) := by decide +kernel
theorem dJ1_indexOf_4cfef_18 : decode cJ1_indexOf_4cfef 18 = .ok (.invokestatic 38, 3) := by decide +kernel
theorem dJ1_indexOf_4cfef_21 : decode cJ1_indexOf_4cfef 21 = .ok (.istore_n 3, 1) := by decide +kernel
theorem dJ1_indexOf_4cfef_22 : decode cJ1_indexOf_4cfef 22 = .ok (.iload_n 2, 1) := by decide +kernel
theorem dJ1_indexOf_4cfef_23 : decode cJ1_indexOf_4cfef 23 = .ok (.iload_n 3, 1) := by decide +kernel
theorem dJ1_indexOf_4cfef_24 : decode cJ1_indexOf_4cfef 24 = .ok (.if_icmp .lt 5, 3) := by decide +kernel
theorem dJ1_indexOf_4cfef_27 : decode cJ1_indexOf_4cfef 27 = .ok (.iconst (-1), 1) := by decide +kernel
theorem dJ1_indexOf_4cfef_28 : decode cJ1_indexOf_4cfef 28 = .ok (.ireturn, 1) := by decide +kernel
theorem dJ1_indexOf_4cfef_29 : decode cJ1_indexOf_4cfef 29 = .ok (.aload_n 0, 1) := by decide +kernel
theorem dJ1_indexOf_4cfef_30 : decode cJ1_indexOf_4cfef 30 = .ok (.iload_n 1, 1) := by decide +kernel
theorem dJ1_indexOf_4cfef_31 : decode cJ1_indexOf_4cfef 31 = .ok (.iload_n 2, 1) := by decide +kernel
theorem dJ1_indexOf_4cfef_32 : decode cJ1_indexOf_4cfef 32 = .ok (.iload_n 3, 1) := by decide +kernel
theorem dJ1_indexOf_4cfef_33 : decode cJ1_indexOf_4cfef 33 = .ok (.invokestatic 95, 3) := by decide +kernel
theorem dJ1_indexOf_4cfef_36 : decode cJ1_indexOf_4cfef 36 = .ok (.ireturn, 1) := by decide +kernel
theorem dJ1_indexOfChar_4cfef_0 : decode cJ1_indexOfChar_4cfef 0 = .ok (.iload_n 1, 1) := by decide +kernel
theorem dJ1_indexOfChar_4cfef_1 : decode cJ1_indexOfChar_4cfef 1 = .ok (.i2b, 1) := by decide +kernel
theorem dJ1_indexOfChar_4cfef_2 : decode cJ1_indexOfChar_4cfef 2 = .ok (.istore 4, 2) := by decide +kernel
theorem dJ1_indexOfChar_4cfef_4 : decode cJ1_indexOfChar_4cfef 4 = .ok (.iload_n 2, 1) := by decide +kernel
theorem dJ1_indexOfChar_4cfef_5 : decode cJ1_indexOfChar_4cfef 5 = .ok (.istore 5, 2) := by decide +kernel
theorem dJ1_indexOfChar_4cfef_7 : decode cJ1_indexOfChar_4cfef 7 = .ok (.iload 5, 2) := by decide +kernel
theorem dJ1_indexOfChar_4cfef_9 : decode cJ1_indexOfChar_4cfef 9 = .ok (.iload_n 3, 1) := by decide +kernel
theorem dJ1_indexOfChar_4cfef_10 : decode cJ1_indexOfChar_4cfef 10 = .ok (.if_icmp .ge 21, 3) := by decide +kernel
theorem dJ1_indexOfChar_4cfef_13 : decode cJ1_indexOfChar_4cfef 13 = .ok (.aload_n 0, 1) := by decide +kernel
theorem dJ1_indexOfChar_4cfef_14 : decode cJ1_indexOfChar_4cfef 14 = .ok (.iload 5, 2) := by decide +kernel
theorem dJ1_indexOfChar_4cfef_16 : decode cJ1_indexOfChar_4cfef 16 = .ok (.baload, 1) := by decide +kernel
theorem dJ1_indexOfChar_4cfef_17 : decode cJ1_indexOfChar_4cfef 17 = .ok (.iload 4, 2) := by decide +kernel
theorem dJ1_indexOfChar_4cfef_19 : decode cJ1_indexOfChar_4cfef 19 = .ok (.if_icmp .ne 6, 3) := by decide +kernel
theorem dJ1_indexOfChar_4cfef_22 : decode cJ1_indexOfChar_4cfef 22 = .ok (.iload 5, 2) := by decide +kernel
theorem dJ1_indexOfChar_4cfef_24 : decode cJ1_indexOfChar_4cfef 24 = .ok (.ireturn, 1) := by decide +kernel
theorem dJ1_indexOfChar_4cfef_25 : decode cJ1_indexOfChar_4cfef 25 = .ok (.iinc 5 1, 3) := by decide +kernel
theorem dJ1_indexOfChar_4cfef_28 : decode cJ1_indexOfChar_4cfef 28 = .ok (.goto (-21), 3) := by decide +kernel
theorem dJ1_indexOfChar_4cfef_31 : decode cJ1_indexOfChar_4cfef 31 = .ok (.iconst (-1), 1) := by decide +kernel
theorem dJ1_indexOfChar_4cfef_32 : decode cJ1_indexOfChar_4cfef 32 = .ok (.ireturn, 1) := by decide +kernel
theorem dJ2_getChar_3b067_0 : decode cJ2_getChar_3b067 0 = .ok (.getstatic 44, 3) := by decide +kernel
theorem dJ2_getChar_3b067_3 : decode cJ2_getChar_3b067 3 = .ok (.ifCond .ne 25, 3) := by decide +kernel
theorem dJ2_getChar_3b067_6 : decode cJ2_getChar_3b067 6 = .ok (.iload_n 1, 1) := by decide +kernel
theorem dJ2_getChar_3b067_7 : decode cJ2_getChar_3b067 7 = .ok (.ifCond .lt 11, 3) := by decide +kernel
theorem dJ2_getChar_3b067_10 : decode cJ2_getChar_3b067 10 = .ok (.iload_n 1, 1) := by decide +kernel
theorem dJ2_getChar_3b067_11 : decode cJ2_getChar_3b067 11 = .ok (.aload_n 0, 1) := by decide +kernel
theorem dJ2_getChar_3b067_12 : decode cJ2_getChar_3b067 12 = .ok (.invokestatic 48, 3) := by decide +kernel
theorem dJ2_getChar_3b067_15 : decode cJ2_getChar_3b067 15 = .ok (.if_icmp .lt 13, 3) := by decide +kernel
theorem dJ2_getChar_3b067_18 : decode cJ2_getChar_3b067 18 = .ok (.new 52, 3) := by decide +kernel
theorem dJ2_getChar_3b067_21 : decode cJ2_getChar_3b067 21 = .ok (.dup, 1) := by decide +kernel
theorem dJ2_getChar_3b067_22 : decode cJ2_getChar_3b067 22 = .ok (.ldc 54, 2) := by decide +kernel
theorem dJ2_getChar_3b067_24 : decode cJ2_getChar_3b067 24 = .ok (.invokespecial 56, 3) := by decide +kernel
theorem dJ2_getChar_3b067_27 : decode cJ2_getChar_3b067 27 = .ok (.athrow, 1) := by decide +kernel
theorem dJ2_getChar_3b067_28 : decode cJ2_getChar_3b067 28 = .ok (.iload_n 1, 1) := by decide +kernel
theorem dJ2_getChar_3b067_29 : decode cJ2_getChar_3b067 29 = .ok (.iconst 1, 1) := by decide +kernel
theorem dJ2_getChar_3b067_30 : decode cJ2_getChar_3b067 30 = .ok (.ishl, 1) := by decide +kernel
theorem dJ2_getChar_3b067_31 : decode cJ2_getChar_3b067 31 = .ok (.istore_n 1, 1) := by decide +kernel
theorem dJ2_getChar_3b067_32 : decode cJ2_getChar_3b067 32 = .ok (.aload_n 0, 1) := by decide +kernel
theorem dJ2_getChar_3b067_33 : decode cJ2_getChar_3b067 33 = .ok (.iload_n 1, 1) := by decide +kernel
theorem dJ2_getChar_3b067_34 : decode cJ2_getChar_3b067 34 = .ok (.iinc 1 1, 3) := by decide +kernel
theorem dJ2_getChar_3b067_37 : decode cJ2_getChar_3b067 37 = .ok (.baload, 1) := by decide +kernel
theorem dJ2_getChar_3b067_38 : decode cJ2_getChar_3b067 38 = .ok (.sipush 255, 3) := by decide +kernel
theorem dJ2_getChar_3b067_41 : decode cJ2_getChar_3b067 41 = .ok (.iand, 1) := by decide +kernel
theorem dJ2_getChar_3b067_42 : decode cJ2_getChar_3b067 42 = .ok (.getstatic 59, 3) := by decide +kernel
theorem dJ2_getChar_3b067_45 : decode cJ2_getChar_3b067 45 = .ok (.ishl, 1) := by decide +kernel
theorem dJ2_getChar_3b067_46 : decode cJ2_getChar_3b067 46 = .ok (.aload_n 0, 1) := by decide +kernel
theorem dJ2_getChar_3b067_47 : decode cJ2_getChar_3b067 47 = .ok (.iload_n 1, 1) := by decide +kernel
theorem dJ2_getChar_3b067_48 : decode cJ2_getChar_3b067 48 = .ok (.baload, 1) := by decide +kernel
theorem dJ2_getChar_3b067_49 : decode cJ2_getChar_3b067 49 = .ok (.sipush 255, 3) := by decide +kernel
theorem dJ2_getChar_3b067_52 : decode cJ2_getChar_3b067 52 = .ok (.iand, 1) := by decide +kernel
theorem dJ2_getChar_3b067_53 : decode cJ2_getChar_3b067 53 = .ok (.getstatic 63, 3) := by decide +kernel
theorem dJ2_getChar_3b067_56 : decode cJ2_getChar_3b067 56 = .ok (.ishl, 1) := by decide +kernel
theorem dJ2_getChar_3b067_57 : decode cJ2_getChar_3b067 57 = .ok (.ior, 1) := by decide +kernel
theorem dJ2_getChar_3b067_58 : decode cJ2_getChar_3b067 58 = .ok (.i2c, 1) := by decide +kernel
theorem dJ2_getChar_3b067_59 : decode cJ2_getChar_3b067 59 = .ok (.ireturn, 1) := by decide +kernel
theorem dJ2_length_9d52b_0 : decode cJ2_length_9d52b 0 = .ok (.aload_n 0, 1) := by decide +kernel
theorem dJ2_length_9d52b_1 : decode cJ2_length_9d52b 1 = .ok (.arraylength, 1) := by decide +kernel
theorem dJ2_length_9d52b_2 : decode cJ2_length_9d52b 2 = .ok (.iconst 1, 1) := by decide +kernel
theorem dJ2_length_9d52b_3 : decode cJ2_length_9d52b 3 = .ok (.ishr, 1) := by decide +kernel
theorem dJ2_length_9d52b_4 : decode cJ2_length_9d52b 4 = .ok (.ireturn, 1) := by decide +kernel
theorem dJ2_indexOf_4cfef_0 : decode cJ2_indexOf_4cfef 0 = .ok (.iload_n 2, 1) := by decide +kernel
theorem dJ2_indexOf_4cfef_1 : decode cJ2_indexOf_4cfef 1 = .ok (.iconst 0, 1) := by decide +kernel
theorem dJ2_indexOf_4cfef_2 : decode cJ2_indexOf_4cfef 2 = .ok (.invokestatic 224, 3) := by decide +kernel
theorem dJ2_indexOf_4cfef_5 : decode cJ2_indexOf_4cfef 5 = .ok (.istore_n 2, 1) := by decide +kernel
theorem dJ2_indexOf_4cfef_6 : decode cJ2_indexOf_4cfef 6 = .ok (.iload_n 3, 1) := by decide +kernel
theorem dJ2_indexOf_4cfef_7 : decode cJ2_indexOf_4cfef 7 = .ok (.aload_n 0, 1) := by decide +kernel
theorem dJ2_indexOf_4cfef_8 : decode cJ2_indexOf_4cfef 8 = .ok (.arraylength, 1) := by decide +kernel
theorem dJ2_indexOf_4cfef_9 : decode cJ2_indexOf_4cfef 9 = .ok (.iconst 1, 1) := by decide +kernel
theorem dJ2_indexOf_4cfef_10 : decode cJ2_indexOf_4cfef 10 = .ok (.ishr, 1) := by decide +kernel
theorem dJ2_indexOf_4cfef_11 : decode cJ2_indexOf_4cfef 11 = .ok (.invokestatic 183, 3) := by decide +kernel
theorem dJ2_indexOf_4cfef_14 : decode cJ2_indexOf_4cfef 14 = .ok (.istore_n 3, 1) := by decide +kernel
theorem dJ2_indexOf_4cfef_15 : decode cJ2_indexOf_4cfef 15 = .ok (.iload_n 2, 1) := by decide +kernel
theorem dJ2_indexOf_4cfef_16 : decode cJ2_indexOf_4cfef 16 = .ok (.iload_n 3, 1) := by decide +kernel
theorem dJ2_indexOf_4cfef_17 : decode cJ2_indexOf_4cfef 17 = .ok (.if_icmp .lt 5, 3) := by decide +kernel
theorem dJ2_indexOf_4cfef_20 : decode cJ2_indexOf_4cfef 20 = .ok (.iconst (-1), 1) := by decide +kernel
theorem dJ2_indexOf_4cfef_21 : decode cJ2_indexOf_4cfef 21 = .ok (.ireturn, 1) := by decide +kernel
theorem dJ2_indexOf_4cfef_22 : decode cJ2_indexOf_4cfef 22 = .ok (.iload_n 1, 1) := by decide +kernel
theorem dJ2_indexOf_4cfef_23 : decode cJ2_indexOf_4cfef 23 = .ok (.ldc 227, 2) := by decide +kernel
theorem dJ2_indexOf_4cfef_25 : decode cJ2_indexOf_4cfef 25 = .ok (.if_icmp .ge 11, 3) := by decide +kernel
theorem dJ2_indexOf_4cfef_28 : decode cJ2_indexOf_4cfef 28 = .ok (.aload_n 0, 1) := by decide +kernel
theorem dJ2_indexOf_4cfef_29 : decode cJ2_indexOf_4cfef 29 = .ok (.iload_n 1, 1) := by decide +kernel
theorem dJ2_indexOf_4cfef_30 : decode cJ2_indexOf_4cfef 30 = .ok (.iload_n 2, 1) := by decide +kernel
theorem dJ2_indexOf_4cfef_31 : decode cJ2_indexOf_4cfef 31 = .ok (.iload_n 3, 1) := by decide +kernel
theorem dJ2_indexOf_4cfef_32 : decode cJ2_indexOf_4cfef 32 = .ok (.invokestatic 228, 3) := by decide +kernel
theorem dJ2_indexOf_4cfef_35 : decode cJ2_indexOf_4cfef 35 = .ok (.ireturn, 1) := by decide +kernel
theorem dJ2_indexOf_4cfef_36 : decode cJ2_indexOf_4cfef 36 = .ok (.aload_n 0, 1) := by decide +kernel
theorem dJ2_indexOf_4cfef_37 : decode cJ2_indexOf_4cfef 37 = .ok (.iload_n 1, 1) := by decide +kernel
theorem dJ2_indexOf_4cfef_38 : decode cJ2_indexOf_4cfef 38 = .ok (.iload_n 2, 1) := by decide +kernel
theorem dJ2_indexOf_4cfef_39 : decode cJ2_indexOf_4cfef 39 = .ok (.iload_n 3, 1) := by decide +kernel
theorem dJ2_indexOf_4cfef_40 : decode cJ2_indexOf_4cfef 40 = .ok (.invokestatic 232, 3) := by decide +kernel
theorem dJ2_indexOf_4cfef_43 : decode cJ2_indexOf_4cfef 43 = .ok (.ireturn, 1) := by decide +kernel
theorem dJ2_indexOfChar_4cfef_0 : decode cJ2_indexOfChar_4cfef 0 = .ok (.iload_n 2, 1) := by decide +kernel
theorem dJ2_indexOfChar_4cfef_1 : decode cJ2_indexOfChar_4cfef 1 = .ok (.iload_n 3, 1) := by decide +kernel
theorem dJ2_indexOfChar_4cfef_2 : decode cJ2_indexOfChar_4cfef 2 = .ok (.aload_n 0, 1) := by decide +kernel
theorem dJ2_indexOfChar_4cfef_3 : decode cJ2_indexOfChar_4cfef 3 = .ok (.invokestatic 96, 3) := by decide +kernel
theorem dJ2_indexOfChar_4cfef_6 : decode cJ2_indexOfChar_4cfef 6 = .ok (.aload_n 0, 1) := by decide +kernel
theorem dJ2_indexOfChar_4cfef_7 : decode cJ2_indexOfChar_4cfef 7 = .ok (.iload_n 1, 1) := by decide +kernel
theorem dJ2_indexOfChar_4cfef_8 : decode cJ2_indexOfChar_4cfef 8 = .ok (.iload_n 2, 1) := by decide +kernel
theorem dJ2_indexOfChar_4cfef_9 : decode cJ2_indexOfChar_4cfef 9 = .ok (.iload_n 3, 1) := by decide +kernel
theorem dJ2_indexOfChar_4cfef_10 : decode cJ2_indexOfChar_4cfef 10 = .ok (.invokestatic 244, 3) := by decide +kernel
theorem dJ2_indexOfChar_4cfef_13 : decode cJ2_indexOfChar_4cfef 13 = .ok (.ireturn, 1) := by decide +kernel
theorem dJ2_indexOfCharUnsafe_4cfef_0 : decode cJ2_indexOfCharUnsafe_4cfef 0 = .ok (.iload_n 2, 1) := by decide +kernel
theorem dJ2_indexOfCharUnsafe_4cfef_1 : decode cJ2_indexOfCharUnsafe_4cfef 1 = .ok (.istore 4, 2) := by decide +kernel
theorem dJ2_indexOfCharUnsafe_4cfef_3 : decode cJ2_indexOfCharUnsafe_4cfef 3 = .ok (.iload 4, 2) := by decide +kernel
theorem dJ2_indexOfCharUnsafe_4cfef_5 : decode cJ2_indexOfCharUnsafe_4cfef 5 = .ok (.iload_n 3, 1) := by decide +kernel
theorem dJ2_indexOfCharUnsafe_4cfef_6 : decode cJ2_indexOfCharUnsafe_4cfef 6 = .ok (.if_icmp .ge 22, 3) := by decide +kernel
theorem dJ2_indexOfCharUnsafe_4cfef_9 : decode cJ2_indexOfCharUnsafe_4cfef 9 = .ok (.aload_n 0, 1) := by decide +kernel
theorem dJ2_indexOfCharUnsafe_4cfef_10 : decode cJ2_indexOfCharUnsafe_4cfef 10 = .ok (.iload 4, 2) := by decide +kernel
theorem dJ2_indexOfCharUnsafe_4cfef_12 : decode cJ2_indexOfCharUnsafe_4cfef 12 = .ok (.invokestatic 71, 3) := by decide +kernel
theorem dJ2_indexOfCharUnsafe_4cfef_15 : decode cJ2_indexOfCharUnsafe_4cfef 15 = .ok (.iload_n 1, 1) := by decide +kernel
theorem dJ2_indexOfCharUnsafe_4cfef_16 : decode cJ2_indexOfCharUnsafe_4cfef 16 = .ok (.if_icmp .ne 6, 3) := by decide +kernel
theorem dJ2_indexOfCharUnsafe_4cfef_19 : decode cJ2_indexOfCharUnsafe_4cfef 19 = .ok (.iload 4, 2) := by decide +kernel
theorem dJ2_indexOfCharUnsafe_4cfef_21 : decode cJ2_indexOfCharUnsafe_4cfef 21 = .ok (.ireturn, 1) := by decide +kernel
theorem dJ2_indexOfCharUnsafe_4cfef_22 : decode cJ2_indexOfCharUnsafe_4cfef 22 = .ok (.iinc 4 1, 3) := by decide +kernel
theorem dJ2_indexOfCharUnsafe_4cfef_25 : decode cJ2_indexOfCharUnsafe_4cfef 25 = .ok (.goto (-22), 3) := by decide +kernel
theorem dJ2_indexOfCharUnsafe_4cfef_28 : decode cJ2_indexOfCharUnsafe_4cfef 28 = .ok (.iconst (-1), 1) := by decide +kernel
theorem dJ2_indexOfCharUnsafe_4cfef_29 : decode cJ2_indexOfCharUnsafe_4cfef 29 = .ok (.ireturn, 1) := by decide +kernel
theorem dJ2_indexOfSupplementary_4cfef_0 : decode cJ2_indexOfSupplementary_4cfef 0 = .ok (.iload_n 1, 1) := by decide +kernel
theorem dJ2_indexOfSupplementary_4cfef_1 : decode cJ2_indexOfSupplementary_4cfef 1 = .ok (.invokestatic 164, 3) := by decide +kernel
theorem dJ2_indexOfSupplementary_4cfef_4 : decode cJ2_indexOfSupplementary_4cfef 4 = .ok (.ifCond .eq 65, 3) := by decide +kernel
theorem dJ2_indexOfSupplementary_4cfef_7 : decode cJ2_indexOfSupplementary_4cfef 7 = .ok (.iload_n 1, 1) := by decide +kernel
theorem dJ2_indexOfSupplementary_4cfef_8 : decode cJ2_indexOfSupplementary_4cfef 8 = .ok (.invokestatic 157, 3) := by decide +kernel
theorem dJ2_indexOfSupplementary_4cfef_11 : decode cJ2_indexOfSupplementary_4cfef 11 = .ok (.istore 4, 2) := by decide +kernel
theorem dJ2_indexOfSupplementary_4cfef_13 : decode cJ2_indexOfSupplementary_4cfef 13 = .ok (.iload_n 1, 1) := by decide +kernel
theorem dJ2_indexOfSupplementary_4cfef_14 : decode cJ2_indexOfSupplementary_4cfef 14 = .ok (.invokestatic 161, 3) := by decide +kernel
theorem dJ2_indexOfSupplementary_4cfef_17 : decode cJ2_indexOfSupplementary_4cfef 17 = .ok (.istore 5, 2) := by decide +kernel
theorem dJ2_indexOfSupplementary_4cfef_19 : decode cJ2_indexOfSupplementary_4cfef 19 = .ok (.iload_n 2, 1) := by decide +kernel
theorem dJ2_indexOfSupplementary_4cfef_20 : decode cJ2_indexOfSupplementary_4cfef 20 = .ok (.iload_n 3, 1) := by decide +kernel
theorem dJ2_indexOfSupplementary_4cfef_21 : decode cJ2_indexOfSupplementary_4cfef 21 = .ok (.aload_n 0, 1) := by decide +kernel
theorem dJ2_indexOfSupplementary_4cfef_22 : decode cJ2_indexOfSupplementary_4cfef 22 = .ok (.invokestatic 96, 3) := by decide +kernel
theorem dJ2_indexOfSupplementary_4cfef_25 : decode cJ2_indexOfSupplementary_4cfef 25 = .ok (.iload_n 2, 1) := by decide +kernel
theorem dJ2_indexOfSupplementary_4cfef_26 : decode cJ2_indexOfSupplementary_4cfef 26 = .ok (.istore 6, 2) := by decide +kernel
theorem dJ2_indexOfSupplementary_4cfef_28 : decode cJ2_indexOfSupplementary_4cfef 28 = .ok (.iload 6, 2) := by decide +kernel
theorem dJ2_indexOfSupplementary_4cfef_30 : decode cJ2_indexOfSupplementary_4cfef 30 = .ok (.iload_n 3, 1) := by decide +kernel
theorem dJ2_indexOfSupplementary_4cfef_31 : decode cJ2_indexOfSupplementary_4cfef 31 = .ok (.iconst 1, 1) := by decide +kernel
theorem dJ2_indexOfSupplementary_4cfef_32 : decode cJ2_indexOfSupplementary_4cfef 32 = .ok (.isub, 1) := by decide +kernel
theorem dJ2_indexOfSupplementary_4cfef_33 : decode cJ2_indexOfSupplementary_4cfef 33 = .ok (.if_icmp .ge 36, 3) := by decide +kernel
theorem dJ2_indexOfSupplementary_4cfef_36 : decode cJ2_indexOfSupplementary_4cfef 36 = .ok (.aload_n 0, 1) := by decide +kernel
theorem dJ2_indexOfSupplementary_4cfef_37 : decode cJ2_indexOfSupplementary_4cfef 37 = .ok (.iload 6, 2) := by decide +kernel
theorem dJ2_indexOfSupplementary_4cfef_39 : decode cJ2_indexOfSupplementary_4cfef 39 = .ok (.invokestatic 71, 3) := by decide +kernel
theorem dJ2_indexOfSupplementary_4cfef_42 : decode cJ2_indexOfSupplementary_4cfef 42 = .ok (.iload 4, 2) := by decide +kernel
theorem dJ2_indexOfSupplementary_4cfef_44 : decode cJ2_indexOfSupplementary_4cfef 44 = .ok (.if_icmp .ne 19, 3) := by decide +kernel
theorem dJ2_indexOfSupplementary_4cfef_47 : decode cJ2_indexOfSupplementary_4cfef 47 = .ok (.aload_n 0, 1) := by decide +kernel
theorem dJ2_indexOfSupplementary_4cfef_48 : decode cJ2_indexOfSupplementary_4cfef 48 = .ok (.iload 6, 2) := by decide +kernel
theorem dJ2_indexOfSupplementary_4cfef_50 : decode cJ2_indexOfSupplementary_4cfef 50 = .ok (.iconst 1, 1) := by decide +kernel
theorem dJ2_indexOfSupplementary_4cfef_51 : decode cJ2_indexOfSupplementary_4cfef 51 = .ok (.iadd, 1) := by decide +kernel
theorem dJ2_indexOfSupplementary_4cfef_52 : decode cJ2_indexOfSupplementary_4cfef 52 = .ok (.invokestatic 71, 3) := by decide +kernel
theorem dJ2_indexOfSupplementary_4cfef_55 : decode cJ2_indexOfSupplementary_4cfef 55 = .ok (.iload 5, 2) := by decide +kernel
theorem dJ2_indexOfSupplementary_4cfef_57 : decode cJ2_indexOfSupplementary_4cfef 57 = .ok (.if_icmp .ne 6, 3) := by decide +kernel
theorem dJ2_indexOfSupplementary_4cfef_60 : decode cJ2_indexOfSupplementary_4cfef 60 = .ok (.iload 6, 2) := by decide +kernel
theorem dJ2_indexOfSupplementary_4cfef_62 : decode cJ2_indexOfSupplementary_4cfef 62 = .ok (.ireturn, 1) := by decide +kernel
theorem dJ2_indexOfSupplementary_4cfef_63 : decode cJ2_indexOfSupplementary_4cfef 63 = .ok (.iinc 6 1, 3) := by decide +kernel
theorem dJ2_indexOfSupplementary_4cfef_66 : decode cJ2_indexOfSupplementary_4cfef 66 = .ok (.goto (-38), 3) := by decide +kernel
theorem dJ2_indexOfSupplementary_4cfef_69 : decode cJ2_indexOfSupplementary_4cfef 69 = .ok (.iconst (-1), 1) := by decide +kernel
theorem dJ2_indexOfSupplementary_4cfef_70 : decode cJ2_indexOfSupplementary_4cfef 70 = .ok (.ireturn, 1) := by decide +kernel
theorem dJ2_checkBoundsBeginEnd_d044e_0 : decode cJ2_checkBoundsBeginEnd_d044e 0 = .ok (.iload_n 0, 1) := by decide +kernel
theorem dJ2_checkBoundsBeginEnd_d044e_1 : decode cJ2_checkBoundsBeginEnd_d044e 1 = .ok (.iload_n 1, 1) := by decide +kernel
theorem dJ2_checkBoundsBeginEnd_d044e_2 : decode cJ2_checkBoundsBeginEnd_d044e 2 = .ok (.aload_n 2, 1) := by decide +kernel
theorem dJ2_checkBoundsBeginEnd_d044e_3 : decode cJ2_checkBoundsBeginEnd_d044e 3 = .ok (.invokestatic 48, 3) := by decide +kernel
theorem dJ2_checkBoundsBeginEnd_d044e_6 : decode cJ2_checkBoundsBeginEnd_d044e 6 = .ok (.invokestatic 241, 3) := by decide +kernel
theorem dJ2_checkBoundsBeginEnd_d044e_9 : decode cJ2_checkBoundsBeginEnd_d044e 9 = .ok (.return_, 1) := by decide +kernel
theorem dJ3_checkFromToIndex_8c36e_0 : decode cJ3_checkFromToIndex_8c36e 0 = .ok (.iload_n 0, 1) := by decide +kernel
theorem dJ3_checkFromToIndex_8c36e_1 : decode cJ3_checkFromToIndex_8c36e 1 = .ok (.ifCond .lt 13, 3) := by decide +kernel
theorem dJ3_checkFromToIndex_8c36e_4 : decode cJ3_checkFromToIndex_8c36e 4 = .ok (.iload_n 0, 1) := by decide +kernel
theorem dJ3_checkFromToIndex_8c36e_5 : decode cJ3_checkFromToIndex_8c36e 5 = .ok (.iload_n 1, 1) := by decide +kernel
theorem dJ3_checkFromToIndex_8c36e_6 : decode cJ3_checkFromToIndex_8c36e 6 = .ok (.if_icmp .gt 8, 3) := by decide +kernel
theorem dJ3_checkFromToIndex_8c36e_9 : decode cJ3_checkFromToIndex_8c36e 9 = .ok (.iload_n 1, 1) := by decide +kernel
theorem dJ3_checkFromToIndex_8c36e_10 : decode cJ3_checkFromToIndex_8c36e 10 = .ok (.iload_n 2, 1) := by decide +kernel
theorem dJ3_checkFromToIndex_8c36e_11 : decode cJ3_checkFromToIndex_8c36e 11 = .ok (.if_icmp .le 11, 3) := by decide +kernel
theorem dJ3_checkFromToIndex_8c36e_14 : decode cJ3_checkFromToIndex_8c36e 14 = .ok (.aload_n 3, 1) := by decide +kernel
theorem dJ3_checkFromToIndex_8c36e_15 : decode cJ3_checkFromToIndex_8c36e 15 = .ok (.iload_n 0, 1) := by decide +kernel
theorem dJ3_checkFromToIndex_8c36e_16 : decode cJ3_checkFromToIndex_8c36e 16 = .ok (.iload_n 1, 1) := by decide +kernel
theorem dJ3_checkFromToIndex_8c36e_17 : decode cJ3_checkFromToIndex_8c36e 17 = .ok (.iload_n 2, 1) := by decide +kernel
theorem dJ3_checkFromToIndex_8c36e_18 : decode cJ3_checkFromToIndex_8c36e 18 = .ok (.invokestatic 99, 3) := by decide +kernel
theorem dJ3_checkFromToIndex_8c36e_21 : decode cJ3_checkFromToIndex_8c36e 21 = .ok (.athrow, 1) := by decide +kernel
theorem dJ3_checkFromToIndex_8c36e_22 : decode cJ3_checkFromToIndex_8c36e 22 = .ok (.iload_n 0, 1) := by decide +kernel
theorem dJ3_checkFromToIndex_8c36e_23 : decode cJ3_checkFromToIndex_8c36e 23 = .ok (.ireturn, 1) := by decide +kernel
theorem dL_cell_0 : decode cL_cell 0 = .ok (.aload 4, 2) := by decide +kernel
theorem dL_cell_2 : decode cL_cell 2 = .ok (.iconst 0, 1) := by decide +kernel
theorem dL_cell_3 : decode cL_cell 3 = .ok (.aload_n 0, 1) := by decide +kernel
theorem dL_cell_4 : decode cL_cell 4 = .ok (.iload_n 1, 1) := by decide +kernel
theorem dL_cell_5 : decode cL_cell 5 = .ok (.iload_n 2, 1) := by decide +kernel
theorem dL_cell_6 : decode cL_cell 6 = .ok (.iload_n 3, 1) := by decide +kernel
theorem dL_cell_7 : decode cL_cell 7 = .ok (.invokevirtual 7, 3) := by decide +kernel
theorem dL_cell_10 : decode cL_cell 10 = .ok (.lastore, 1) := by decide +kernel
theorem dL_cell_11 : decode cL_cell 11 = .ok (.goto 7, 3) := by decide +kernel
theorem dL_cell_14 : decode cL_cell 14 = .ok (.astore 5, 2) := by decide +kernel
theorem dL_cell_16 : decode cL_cell 16 = .ok (.iconst 1, 1) := by decide +kernel
theorem dL_cell_17 : decode cL_cell 17 = .ok (.ireturn, 1) := by decide +kernel
theorem dL_cell_18 : decode cL_cell 18 = .ok (.iconst 0, 1) := by decide +kernel
theorem dL_cell_19 : decode cL_cell 19 = .ok (.ireturn, 1) := by decide +kernel
theorem dL_law_0 : decode cL_law 0 = .ok (.new 8, 3) := by decide +kernel
theorem dL_law_3 : decode cL_law 3 = .ok (.dup, 1) := by decide +kernel
theorem dL_law_4 : decode cL_law 4 = .ok (.invokespecial 15, 3) := by decide +kernel
theorem dL_law_7 : decode cL_law 7 = .ok (.astore_n 1, 1) := by decide +kernel
theorem dL_law_8 : decode cL_law 8 = .ok (.new 16, 3) := by decide +kernel
theorem dL_law_11 : decode cL_law 11 = .ok (.dup, 1) := by decide +kernel
theorem dL_law_12 : decode cL_law 12 = .ok (.invokespecial 18, 3) := by decide +kernel
theorem dL_law_15 : decode cL_law 15 = .ok (.astore_n 2, 1) := by decide +kernel
theorem dL_law_16 : decode cL_law 16 = .ok (.iconst 1, 1) := by decide +kernel
theorem dL_law_17 : decode cL_law 17 = .ok (.newarray .long, 2) := by decide +kernel
theorem dL_law_19 : decode cL_law 19 = .ok (.astore_n 3, 1) := by decide +kernel
theorem dL_law_20 : decode cL_law 20 = .ok (.iconst 0, 1) := by decide +kernel
theorem dL_law_21 : decode cL_law 21 = .ok (.istore 4, 2) := by decide +kernel
theorem dL_law_23 : decode cL_law 23 = .ok (.iload 4, 2) := by decide +kernel
theorem dL_law_25 : decode cL_law 25 = .ok (.aload_n 0, 1) := by decide +kernel
theorem dL_law_26 : decode cL_law 26 = .ok (.arraylength, 1) := by decide +kernel
theorem dL_law_27 : decode cL_law 27 = .ok (.iconst 4, 1) := by decide +kernel
theorem dL_law_28 : decode cL_law 28 = .ok (.isub, 1) := by decide +kernel
theorem dL_law_29 : decode cL_law 29 = .ok (.if_icmp .gt 738, 3) := by decide +kernel
theorem dL_law_32 : decode cL_law 32 = .ok (.aload_n 0, 1) := by decide +kernel
theorem dL_law_33 : decode cL_law 33 = .ok (.iload 4, 2) := by decide +kernel
theorem dL_law_35 : decode cL_law 35 = .ok (.iaload, 1) := by decide +kernel
theorem dL_law_36 : decode cL_law 36 = .ok (.bipush 31, 2) := by decide +kernel
theorem dL_law_38 : decode cL_law 38 = .ok (.iand, 1) := by decide +kernel
theorem dL_law_39 : decode cL_law 39 = .ok (.tableswitch 722 0 17 #[85, 138, 175, 244, 257, 306, 319, 368, 393, 406, 420, 445, 494, 519, 556, 581, 618, 697], 85) := by decide +kernel
theorem dL_law_124 : decode cL_law 124 = .ok (.aload_n 1, 1) := by decide +kernel
theorem dL_law_125 : decode cL_law 125 = .ok (.aload_n 0, 1) := by decide +kernel
theorem dL_law_126 : decode cL_law 126 = .ok (.iload 4, 2) := by decide +kernel
theorem dL_law_128 : decode cL_law 128 = .ok (.iconst 1, 1) := by decide +kernel
theorem dL_law_129 : decode cL_law 129 = .ok (.iadd, 1) := by decide +kernel
theorem dL_law_130 : decode cL_law 130 = .ok (.iaload, 1) := by decide +kernel
theorem dL_law_131 : decode cL_law 131 = .ok (.aload_n 0, 1) := by decide +kernel
theorem dL_law_132 : decode cL_law 132 = .ok (.iload 4, 2) := by decide +kernel
theorem dL_law_134 : decode cL_law 134 = .ok (.iconst 2, 1) := by decide +kernel
theorem dL_law_135 : decode cL_law 135 = .ok (.iadd, 1) := by decide +kernel
theorem dL_law_136 : decode cL_law 136 = .ok (.iaload, 1) := by decide +kernel
theorem dL_law_137 : decode cL_law 137 = .ok (.ifCond .eq 7, 3) := by decide +kernel
theorem dL_law_140 : decode cL_law 140 = .ok (.iconst 1, 1) := by decide +kernel
theorem dL_law_141 : decode cL_law 141 = .ok (.goto 4, 3) := by decide +kernel
theorem dL_law_144 : decode cL_law 144 = .ok (.iconst 0, 1) := by decide +kernel
theorem dL_law_145 : decode cL_law 145 = .ok (.invokevirtual 19, 3) := by decide +kernel
theorem dL_law_148 : decode cL_law 148 = .ok (.aload_n 2, 1) := by decide +kernel
theorem dL_law_149 : decode cL_law 149 = .ok (.aload_n 0, 1) := by decide +kernel
theorem dL_law_150 : decode cL_law 150 = .ok (.iload 4, 2) := by decide +kernel
theorem dL_law_152 : decode cL_law 152 = .ok (.iconst 1, 1) := by decide +kernel
theorem dL_law_153 : decode cL_law 153 = .ok (.iadd, 1) := by decide +kernel
theorem dL_law_154 : decode cL_law 154 = .ok (.iaload, 1) := by decide +kernel
theorem dL_law_155 : decode cL_law 155 = .ok (.aload_n 0, 1) := by decide +kernel
theorem dL_law_156 : decode cL_law 156 = .ok (.iload 4, 2) := by decide +kernel
theorem dL_law_158 : decode cL_law 158 = .ok (.iconst 2, 1) := by decide +kernel
theorem dL_law_159 : decode cL_law 159 = .ok (.iadd, 1) := by decide +kernel
theorem dL_law_160 : decode cL_law 160 = .ok (.iaload, 1) := by decide +kernel
theorem dL_law_161 : decode cL_law 161 = .ok (.ifCond .eq 7, 3) := by decide +kernel
theorem dL_law_164 : decode cL_law 164 = .ok (.iconst 1, 1) := by decide +kernel
theorem dL_law_165 : decode cL_law 165 = .ok (.goto 4, 3) := by decide +kernel
theorem dL_law_168 : decode cL_law 168 = .ok (.iconst 0, 1) := by decide +kernel
theorem dL_law_169 : decode cL_law 169 = .ok (.invokevirtual 23, 3) := by decide +kernel
theorem dL_law_172 : decode cL_law 172 = .ok (.if_icmp .eq 589, 3) := by decide +kernel
theorem dL_law_175 : decode cL_law 175 = .ok (.iconst 0, 1) := by decide +kernel
theorem dL_law_176 : decode cL_law 176 = .ok (.ireturn, 1) := by decide +kernel
theorem dL_law_177 : decode cL_law 177 = .ok (.aload_n 1, 1) := by decide +kernel
theorem dL_law_178 : decode cL_law 178 = .ok (.aload_n 0, 1) := by decide +kernel
theorem dL_law_179 : decode cL_law 179 = .ok (.iload 4, 2) := by decide +kernel
theorem dL_law_181 : decode cL_law 181 = .ok (.iconst 1, 1) := by decide +kernel
theorem dL_law_182 : decode cL_law 182 = .ok (.iadd, 1) := by decide +kernel
theorem dL_law_183 : decode cL_law 183 = .ok (.iaload, 1) := by decide +kernel
theorem dL_law_184 : decode cL_law 184 = .ok (.aload_n 0, 1) := by decide +kernel
theorem dL_law_185 : decode cL_law 185 = .ok (.iload 4, 2) := by decide +kernel
theorem dL_law_187 : decode cL_law 187 = .ok (.iconst 2, 1) := by decide +kernel
theorem dL_law_188 : decode cL_law 188 = .ok (.iadd, 1) := by decide +kernel
theorem dL_law_189 : decode cL_law 189 = .ok (.iaload, 1) := by decide +kernel
theorem dL_law_190 : decode cL_law 190 = .ok (.invokevirtual 24, 3) := by decide +kernel
theorem dL_law_193 : decode cL_law 193 = .ok (.aload_n 2, 1) := by decide +kernel
theorem dL_law_194 : decode cL_law 194 = .ok (.aload_n 0, 1) := by decide +kernel
theorem dL_law_195 : decode cL_law 195 = .ok (.iload 4, 2) := by decide +kernel
theorem dL_law_197 : decode cL_law 197 = .ok (.iconst 1, 1) := by decide +kernel
theorem dL_law_198 : decode cL_law 198 = .ok (.iadd, 1) := by decide +kernel
theorem dL_law_199 : decode cL_law 199 = .ok (.iaload, 1) := by decide +kernel
theorem dL_law_200 : decode cL_law 200 = .ok (.aload_n 0, 1) := by decide +kernel
theorem dL_law_201 : decode cL_law 201 = .ok (.iload 4, 2) := by decide +kernel
theorem dL_law_203 : decode cL_law 203 = .ok (.iconst 2, 1) := by decide +kernel
theorem dL_law_204 : decode cL_law 204 = .ok (.iadd, 1) := by decide +kernel
theorem dL_law_205 : decode cL_law 205 = .ok (.iaload, 1) := by decide +kernel
theorem dL_law_206 : decode cL_law 206 = .ok (.invokevirtual 28, 3) := by decide +kernel
theorem dL_law_209 : decode cL_law 209 = .ok (.if_icmp .eq 552, 3) := by decide +kernel
theorem dL_law_212 : decode cL_law 212 = .ok (.iconst 0, 1) := by decide +kernel
theorem dL_law_213 : decode cL_law 213 = .ok (.ireturn, 1) := by decide +kernel
theorem dL_law_214 : decode cL_law 214 = .ok (.aload_n 1, 1) := by decide +kernel
theorem dL_law_215 : decode cL_law 215 = .ok (.aload_n 0, 1) := by decide +kernel
theorem dL_law_216 : decode cL_law 216 = .ok (.iload 4, 2) := by decide +kernel
theorem dL_law_218 : decode cL_law 218 = .ok (.iconst 1, 1) := by decide +kernel
theorem dL_law_219 : decode cL_law 219 = .ok (.iadd, 1) := by decide +kernel
theorem dL_law_220 : decode cL_law 220 = .ok (.iaload, 1) := by decide +kernel
theorem dL_law_221 : decode cL_law 221 = .ok (.aload_n 0, 1) := by decide +kernel
theorem dL_law_222 : decode cL_law 222 = .ok (.iload 4, 2) := by decide +kernel
theorem dL_law_224 : decode cL_law 224 = .ok (.iconst 2, 1) := by decide +kernel
theorem dL_law_225 : decode cL_law 225 = .ok (.iadd, 1) := by decide +kernel
theorem dL_law_226 : decode cL_law 226 = .ok (.iaload, 1) := by decide +kernel
theorem dL_law_227 : decode cL_law 227 = .ok (.i2l, 1) := by decide +kernel
theorem dL_law_228 : decode cL_law 228 = .ok (.bipush 32, 2) := by decide +kernel
theorem dL_law_230 : decode cL_law 230 = .ok (.lshl, 1) := by decide +kernel
theorem dL_law_231 : decode cL_law 231 = .ok (.aload_n 0, 1) := by decide +kernel
theorem dL_law_232 : decode cL_law 232 = .ok (.iload 4, 2) := by decide +kernel
theorem dL_law_234 : decode cL_law 234 = .ok (.iconst 3, 1) := by decide +kernel
theorem dL_law_235 : decode cL_law 235 = .ok (.iadd, 1) := by decide +kernel
theorem dL_law_236 : decode cL_law 236 = .ok (.iaload, 1) := by decide +kernel
theorem dL_law_237 : decode cL_law 237 = .ok (.i2l, 1) := by decide +kernel
theorem dL_law_238 : decode cL_law 238 = .ok (.ldc2_w 29, 3) := by decide +kernel
theorem dL_law_241 : decode cL_law 241 = .ok (.land, 1) := by decide +kernel
theorem dL_law_242 : decode cL_law 242 = .ok (.lor, 1) := by decide +kernel
theorem dL_law_243 : decode cL_law 243 = .ok (.invokevirtual 31, 3) := by decide +kernel
theorem dL_law_246 : decode cL_law 246 = .ok (.aload_n 2, 1) := by decide +kernel
theorem dL_law_247 : decode cL_law 247 = .ok (.aload_n 0, 1) := by decide +kernel
theorem dL_law_248 : decode cL_law 248 = .ok (.iload 4, 2) := by decide +kernel
theorem dL_law_250 : decode cL_law 250 = .ok (.iconst 1, 1) := by decide +kernel
theorem dL_law_251 : decode cL_law 251 = .ok (.iadd, 1) := by decide +kernel
theorem dL_law_252 : decode cL_law 252 = .ok (.iaload, 1) := by decide +kernel
theorem dL_law_253 : decode cL_law 253 = .ok (.aload_n 0, 1) := by decide +kernel
theorem dL_law_254 : decode cL_law 254 = .ok (.iload 4, 2) := by decide +kernel
theorem dL_law_256 : decode cL_law 256 = .ok (.iconst 2, 1) := by decide +kernel
theorem dL_law_257 : decode cL_law 257 = .ok (.iadd, 1) := by decide +kernel
theorem dL_law_258 : decode cL_law 258 = .ok (.iaload, 1) := by decide +kernel
theorem dL_law_259 : decode cL_law 259 = .ok (.i2l, 1) := by decide +kernel
theorem dL_law_260 : decode cL_law 260 = .ok (.bipush 32, 2) := by decide +kernel
theorem dL_law_262 : decode cL_law 262 = .ok (.lshl, 1) := by decide +kernel
theorem dL_law_263 : decode cL_law 263 = .ok (.aload_n 0, 1) := by decide +kernel
theorem dL_law_264 : decode cL_law 264 = .ok (.iload 4, 2) := by decide +kernel
theorem dL_law_266 : decode cL_law 266 = .ok (.iconst 3, 1) := by decide +kernel
theorem dL_law_267 : decode cL_law 267 = .ok (.iadd, 1) := by decide +kernel
theorem dL_law_268 : decode cL_law 268 = .ok (.iaload, 1) := by decide +kernel
theorem dL_law_269 : decode cL_law 269 = .ok (.i2l, 1) := by decide +kernel
theorem dL_law_270 : decode cL_law 270 = .ok (.ldc2_w 29, 3) := by decide +kernel
theorem dL_law_273 : decode cL_law 273 = .ok (.land, 1) := by decide +kernel
theorem dL_law_274 : decode cL_law 274 = .ok (.lor, 1) := by decide +kernel
theorem dL_law_275 : decode cL_law 275 = .ok (.invokevirtual 35, 3) := by decide +kernel
theorem dL_law_278 : decode cL_law 278 = .ok (.if_icmp .eq 483, 3) := by decide +kernel
theorem dL_law_281 : decode cL_law 281 = .ok (.iconst 0, 1) := by decide +kernel
theorem dL_law_282 : decode cL_law 282 = .ok (.ireturn, 1) := by decide +kernel
theorem dL_law_283 : decode cL_law 283 = .ok (.aload_n 1, 1) := by decide +kernel
theorem dL_law_284 : decode cL_law 284 = .ok (.invokevirtual 36, 3) := by decide +kernel
theorem dL_law_287 : decode cL_law 287 = .ok (.aload_n 2, 1) := by decide +kernel
theorem dL_law_288 : decode cL_law 288 = .ok (.invokevirtual 40, 3) := by decide +kernel
theorem dL_law_291 : decode cL_law 291 = .ok (.if_icmp .eq 470, 3) := by decide +kernel
theorem dL_law_294 : decode cL_law 294 = .ok (.iconst 0, 1) := by decide +kernel
theorem dL_law_295 : decode cL_law 295 = .ok (.ireturn, 1) := by decide +kernel
theorem dL_law_296 : decode cL_law 296 = .ok (.aload_n 1, 1) := by decide +kernel
theorem dL_law_297 : decode cL_law 297 = .ok (.aload_n 0, 1) := by decide +kernel
theorem dL_law_298 : decode cL_law 298 = .ok (.iload 4, 2) := by decide +kernel
theorem dL_law_300 : decode cL_law 300 = .ok (.iconst 1, 1) := by decide +kernel
theorem dL_law_301 : decode cL_law 301 = .ok (.iadd, 1) := by decide +kernel
theorem dL_law_302 : decode cL_law 302 = .ok (.iaload, 1) := by decide +kernel
theorem dL_law_303 : decode cL_law 303 = .ok (.aload_n 0, 1) := by decide +kernel
theorem dL_law_304 : decode cL_law 304 = .ok (.iload 4, 2) := by decide +kernel
theorem dL_law_306 : decode cL_law 306 = .ok (.iconst 2, 1) := by decide +kernel
theorem dL_law_307 : decode cL_law 307 = .ok (.iadd, 1) := by decide +kernel
theorem dL_law_308 : decode cL_law 308 = .ok (.iaload, 1) := by decide +kernel
theorem dL_law_309 : decode cL_law 309 = .ok (.aload_n 0, 1) := by decide +kernel
theorem dL_law_310 : decode cL_law 310 = .ok (.iload 4, 2) := by decide +kernel
theorem dL_law_312 : decode cL_law 312 = .ok (.iconst 3, 1) := by decide +kernel
theorem dL_law_313 : decode cL_law 313 = .ok (.iadd, 1) := by decide +kernel
theorem dL_law_314 : decode cL_law 314 = .ok (.iaload, 1) := by decide +kernel
theorem dL_law_315 : decode cL_law 315 = .ok (.invokevirtual 41, 3) := by decide +kernel
theorem dL_law_318 : decode cL_law 318 = .ok (.aload_n 2, 1) := by decide +kernel
theorem dL_law_319 : decode cL_law 319 = .ok (.aload_n 0, 1) := by decide +kernel
theorem dL_law_320 : decode cL_law 320 = .ok (.iload 4, 2) := by decide +kernel
theorem dL_law_322 : decode cL_law 322 = .ok (.iconst 1, 1) := by decide +kernel
theorem dL_law_323 : decode cL_law 323 = .ok (.iadd, 1) := by decide +kernel
theorem dL_law_324 : decode cL_law 324 = .ok (.iaload, 1) := by decide +kernel
theorem dL_law_325 : decode cL_law 325 = .ok (.aload_n 0, 1) := by decide +kernel
theorem dL_law_326 : decode cL_law 326 = .ok (.iload 4, 2) := by decide +kernel
theorem dL_law_328 : decode cL_law 328 = .ok (.iconst 2, 1) := by decide +kernel
theorem dL_law_329 : decode cL_law 329 = .ok (.iadd, 1) := by decide +kernel
theorem dL_law_330 : decode cL_law 330 = .ok (.iaload, 1) := by decide +kernel
theorem dL_law_331 : decode cL_law 331 = .ok (.aload_n 0, 1) := by decide +kernel
theorem dL_law_332 : decode cL_law 332 = .ok (.iload 4, 2) := by decide +kernel
theorem dL_law_334 : decode cL_law 334 = .ok (.iconst 3, 1) := by decide +kernel
theorem dL_law_335 : decode cL_law 335 = .ok (.iadd, 1) := by decide +kernel
theorem dL_law_336 : decode cL_law 336 = .ok (.iaload, 1) := by decide +kernel
theorem dL_law_337 : decode cL_law 337 = .ok (.invokevirtual 45, 3) := by decide +kernel
theorem dL_law_340 : decode cL_law 340 = .ok (.if_icmp .eq 421, 3) := by decide +kernel
theorem dL_law_343 : decode cL_law 343 = .ok (.iconst 0, 1) := by decide +kernel
theorem dL_law_344 : decode cL_law 344 = .ok (.ireturn, 1) := by decide +kernel
theorem dL_law_345 : decode cL_law 345 = .ok (.aload_n 1, 1) := by decide +kernel
theorem dL_law_346 : decode cL_law 346 = .ok (.invokevirtual 46, 3) := by decide +kernel
theorem dL_law_349 : decode cL_law 349 = .ok (.aload_n 2, 1) := by decide +kernel
theorem dL_law_350 : decode cL_law 350 = .ok (.invokevirtual 49, 3) := by decide +kernel
theorem dL_law_353 : decode cL_law 353 = .ok (.if_icmp .eq 408, 3) := by decide +kernel
theorem dL_law_356 : decode cL_law 356 = .ok (.iconst 0, 1) := by decide +kernel
theorem dL_law_357 : decode cL_law 357 = .ok (.ireturn, 1) := by decide +kernel
theorem dL_law_358 : decode cL_law 358 = .ok (.aload_n 1, 1) := by decide +kernel
theorem dL_law_359 : decode cL_law 359 = .ok (.aload_n 0, 1) := by decide +kernel
theorem dL_law_360 : decode cL_law 360 = .ok (.iload 4, 2) := by decide +kernel
theorem dL_law_362 : decode cL_law 362 = .ok (.iconst 1, 1) := by decide +kernel
theorem dL_law_363 : decode cL_law 363 = .ok (.iadd, 1) := by decide +kernel
theorem dL_law_364 : decode cL_law 364 = .ok (.iaload, 1) := by decide +kernel
theorem dL_law_365 : decode cL_law 365 = .ok (.aload_n 0, 1) := by decide +kernel
theorem dL_law_366 : decode cL_law 366 = .ok (.iload 4, 2) := by decide +kernel
theorem dL_law_368 : decode cL_law 368 = .ok (.iconst 2, 1) := by decide +kernel
theorem dL_law_369 : decode cL_law 369 = .ok (.iadd, 1) := by decide +kernel
theorem dL_law_370 : decode cL_law 370 = .ok (.iaload, 1) := by decide +kernel
theorem dL_law_371 : decode cL_law 371 = .ok (.aload_n 0, 1) := by decide +kernel
theorem dL_law_372 : decode cL_law 372 = .ok (.iload 4, 2) := by decide +kernel
theorem dL_law_374 : decode cL_law 374 = .ok (.iconst 3, 1) := by decide +kernel
theorem dL_law_375 : decode cL_law 375 = .ok (.iadd, 1) := by decide +kernel
theorem dL_law_376 : decode cL_law 376 = .ok (.iaload, 1) := by decide +kernel
theorem dL_law_377 : decode cL_law 377 = .ok (.invokevirtual 50, 3) := by decide +kernel
theorem dL_law_380 : decode cL_law 380 = .ok (.aload_n 2, 1) := by decide +kernel
theorem dL_law_381 : decode cL_law 381 = .ok (.aload_n 0, 1) := by decide +kernel
theorem dL_law_382 : decode cL_law 382 = .ok (.iload 4, 2) := by decide +kernel
theorem dL_law_384 : decode cL_law 384 = .ok (.iconst 1, 1) := by decide +kernel
theorem dL_law_385 : decode cL_law 385 = .ok (.iadd, 1) := by decide +kernel
theorem dL_law_386 : decode cL_law 386 = .ok (.iaload, 1) := by decide +kernel
theorem dL_law_387 : decode cL_law 387 = .ok (.aload_n 0, 1) := by decide +kernel
theorem dL_law_388 : decode cL_law 388 = .ok (.iload 4, 2) := by decide +kernel
theorem dL_law_390 : decode cL_law 390 = .ok (.iconst 2, 1) := by decide +kernel
theorem dL_law_391 : decode cL_law 391 = .ok (.iadd, 1) := by decide +kernel
theorem dL_law_392 : decode cL_law 392 = .ok (.iaload, 1) := by decide +kernel
theorem dL_law_393 : decode cL_law 393 = .ok (.aload_n 0, 1) := by decide +kernel
theorem dL_law_394 : decode cL_law 394 = .ok (.iload 4, 2) := by decide +kernel
theorem dL_law_396 : decode cL_law 396 = .ok (.iconst 3, 1) := by decide +kernel
theorem dL_law_397 : decode cL_law 397 = .ok (.iadd, 1) := by decide +kernel
theorem dL_law_398 : decode cL_law 398 = .ok (.iaload, 1) := by decide +kernel
theorem dL_law_399 : decode cL_law 399 = .ok (.invokevirtual 53, 3) := by decide +kernel
theorem dL_law_402 : decode cL_law 402 = .ok (.if_icmp .eq 359, 3) := by decide +kernel
theorem dL_law_405 : decode cL_law 405 = .ok (.iconst 0, 1) := by decide +kernel
theorem dL_law_406 : decode cL_law 406 = .ok (.ireturn, 1) := by decide +kernel
theorem dL_law_407 : decode cL_law 407 = .ok (.aload_n 1, 1) := by decide +kernel
theorem dL_law_408 : decode cL_law 408 = .ok (.aload_n 0, 1) := by decide +kernel
theorem dL_law_409 : decode cL_law 409 = .ok (.iload 4, 2) := by decide +kernel
theorem dL_law_411 : decode cL_law 411 = .ok (.iconst 1, 1) := by decide +kernel
theorem dL_law_412 : decode cL_law 412 = .ok (.iadd, 1) := by decide +kernel
theorem dL_law_413 : decode cL_law 413 = .ok (.iaload, 1) := by decide +kernel
theorem dL_law_414 : decode cL_law 414 = .ok (.invokevirtual 54, 3) := by decide +kernel
theorem dL_law_417 : decode cL_law 417 = .ok (.aload_n 2, 1) := by decide +kernel
theorem dL_law_418 : decode cL_law 418 = .ok (.aload_n 0, 1) := by decide +kernel
theorem dL_law_419 : decode cL_law 419 = .ok (.iload 4, 2) := by decide +kernel
theorem dL_law_421 : decode cL_law 421 = .ok (.iconst 1, 1) := by decide +kernel
theorem dL_law_422 : decode cL_law 422 = .ok (.iadd, 1) := by decide +kernel
theorem dL_law_423 : decode cL_law 423 = .ok (.iaload, 1) := by decide +kernel
theorem dL_law_424 : decode cL_law 424 = .ok (.invokevirtual 58, 3) := by decide +kernel
theorem dL_law_427 : decode cL_law 427 = .ok (.if_icmp .eq 334, 3) := by decide +kernel
theorem dL_law_430 : decode cL_law 430 = .ok (.iconst 0, 1) := by decide +kernel
theorem dL_law_431 : decode cL_law 431 = .ok (.ireturn, 1) := by decide +kernel
theorem dL_law_432 : decode cL_law 432 = .ok (.aload_n 1, 1) := by decide +kernel
theorem dL_law_433 : decode cL_law 433 = .ok (.invokevirtual 59, 3) := by decide +kernel
theorem dL_law_436 : decode cL_law 436 = .ok (.aload_n 2, 1) := by decide +kernel
theorem dL_law_437 : decode cL_law 437 = .ok (.invokevirtual 62, 3) := by decide +kernel
theorem dL_law_440 : decode cL_law 440 = .ok (.if_icmp .eq 321, 3) := by decide +kernel
theorem dL_law_443 : decode cL_law 443 = .ok (.iconst 0, 1) := by decide +kernel
theorem dL_law_444 : decode cL_law 444 = .ok (.ireturn, 1) := by decide +kernel
theorem dL_law_445 : decode cL_law 445 = .ok (.aload_n 1, 1) := by decide +kernel
theorem dL_law_446 : decode cL_law 446 = .ok (.invokevirtual 63, 3) := by decide +kernel
theorem dL_law_449 : decode cL_law 449 = .ok (.aload_n 2, 1) := by decide +kernel
theorem dL_law_450 : decode cL_law 450 = .ok (.invokevirtual 67, 3) := by decide +kernel
theorem dL_law_453 : decode cL_law 453 = .ok (.lcmp, 1) := by decide +kernel
theorem dL_law_454 : decode cL_law 454 = .ok (.ifCond .eq 307, 3) := by decide +kernel
theorem dL_law_457 : decode cL_law 457 = .ok (.iconst 0, 1) := by decide +kernel
theorem dL_law_458 : decode cL_law 458 = .ok (.ireturn, 1) := by decide +kernel
theorem dL_law_459 : decode cL_law 459 = .ok (.aload_n 1, 1) := by decide +kernel
theorem dL_law_460 : decode cL_law 460 = .ok (.aload_n 0, 1) := by decide +kernel
theorem dL_law_461 : decode cL_law 461 = .ok (.iload 4, 2) := by decide +kernel
theorem dL_law_463 : decode cL_law 463 = .ok (.iconst 1, 1) := by decide +kernel
theorem dL_law_464 : decode cL_law 464 = .ok (.iadd, 1) := by decide +kernel
theorem dL_law_465 : decode cL_law 465 = .ok (.iaload, 1) := by decide +kernel
theorem dL_law_466 : decode cL_law 466 = .ok (.invokevirtual 68, 3) := by decide +kernel
theorem dL_law_469 : decode cL_law 469 = .ok (.aload_n 2, 1) := by decide +kernel
theorem dL_law_470 : decode cL_law 470 = .ok (.aload_n 0, 1) := by decide +kernel
theorem dL_law_471 : decode cL_law 471 = .ok (.iload 4, 2) := by decide +kernel
theorem dL_law_473 : decode cL_law 473 = .ok (.iconst 1, 1) := by decide +kernel
theorem dL_law_474 : decode cL_law 474 = .ok (.iadd, 1) := by decide +kernel
theorem dL_law_475 : decode cL_law 475 = .ok (.iaload, 1) := by decide +kernel
theorem dL_law_476 : decode cL_law 476 = .ok (.invokevirtual 71, 3) := by decide +kernel
theorem dL_law_479 : decode cL_law 479 = .ok (.if_icmp .eq 282, 3) := by decide +kernel
theorem dL_law_482 : decode cL_law 482 = .ok (.iconst 0, 1) := by decide +kernel
theorem dL_law_483 : decode cL_law 483 = .ok (.ireturn, 1) := by decide +kernel
theorem dL_law_484 : decode cL_law 484 = .ok (.aload_n 1, 1) := by decide +kernel
theorem dL_law_485 : decode cL_law 485 = .ok (.aload_n 0, 1) := by decide +kernel
theorem dL_law_486 : decode cL_law 486 = .ok (.iload 4, 2) := by decide +kernel
theorem dL_law_488 : decode cL_law 488 = .ok (.iconst 1, 1) := by decide +kernel
theorem dL_law_489 : decode cL_law 489 = .ok (.iadd, 1) := by decide +kernel
theorem dL_law_490 : decode cL_law 490 = .ok (.iaload, 1) := by decide +kernel
theorem dL_law_491 : decode cL_law 491 = .ok (.aload_n 0, 1) := by decide +kernel
theorem dL_law_492 : decode cL_law 492 = .ok (.iload 4, 2) := by decide +kernel
theorem dL_law_494 : decode cL_law 494 = .ok (.iconst 2, 1) := by decide +kernel
theorem dL_law_495 : decode cL_law 495 = .ok (.iadd, 1) := by decide +kernel
theorem dL_law_496 : decode cL_law 496 = .ok (.iaload, 1) := by decide +kernel
theorem dL_law_497 : decode cL_law 497 = .ok (.aload_n 0, 1) := by decide +kernel
theorem dL_law_498 : decode cL_law 498 = .ok (.iload 4, 2) := by decide +kernel
theorem dL_law_500 : decode cL_law 500 = .ok (.iconst 3, 1) := by decide +kernel
theorem dL_law_501 : decode cL_law 501 = .ok (.iadd, 1) := by decide +kernel
theorem dL_law_502 : decode cL_law 502 = .ok (.iaload, 1) := by decide +kernel
theorem dL_law_503 : decode cL_law 503 = .ok (.invokevirtual 72, 3) := by decide +kernel
theorem dL_law_506 : decode cL_law 506 = .ok (.aload_n 2, 1) := by decide +kernel
theorem dL_law_507 : decode cL_law 507 = .ok (.aload_n 0, 1) := by decide +kernel
theorem dL_law_508 : decode cL_law 508 = .ok (.iload 4, 2) := by decide +kernel
theorem dL_law_510 : decode cL_law 510 = .ok (.iconst 1, 1) := by decide +kernel
theorem dL_law_511 : decode cL_law 511 = .ok (.iadd, 1) := by decide +kernel
theorem dL_law_512 : decode cL_law 512 = .ok (.iaload, 1) := by decide +kernel
theorem dL_law_513 : decode cL_law 513 = .ok (.aload_n 0, 1) := by decide +kernel
theorem dL_law_514 : decode cL_law 514 = .ok (.iload 4, 2) := by decide +kernel
theorem dL_law_516 : decode cL_law 516 = .ok (.iconst 2, 1) := by decide +kernel
theorem dL_law_517 : decode cL_law 517 = .ok (.iadd, 1) := by decide +kernel
theorem dL_law_518 : decode cL_law 518 = .ok (.iaload, 1) := by decide +kernel
theorem dL_law_519 : decode cL_law 519 = .ok (.aload_n 0, 1) := by decide +kernel
theorem dL_law_520 : decode cL_law 520 = .ok (.iload 4, 2) := by decide +kernel
theorem dL_law_522 : decode cL_law 522 = .ok (.iconst 3, 1) := by decide +kernel
theorem dL_law_523 : decode cL_law 523 = .ok (.iadd, 1) := by decide +kernel
theorem dL_law_524 : decode cL_law 524 = .ok (.iaload, 1) := by decide +kernel
theorem dL_law_525 : decode cL_law 525 = .ok (.invokevirtual 75, 3) := by decide +kernel
theorem dL_law_528 : decode cL_law 528 = .ok (.if_icmp .eq 233, 3) := by decide +kernel
theorem dL_law_531 : decode cL_law 531 = .ok (.iconst 0, 1) := by decide +kernel
theorem dL_law_532 : decode cL_law 532 = .ok (.ireturn, 1) := by decide +kernel
theorem dL_law_533 : decode cL_law 533 = .ok (.aload_n 1, 1) := by decide +kernel
theorem dL_law_534 : decode cL_law 534 = .ok (.aload_n 0, 1) := by decide +kernel
theorem dL_law_535 : decode cL_law 535 = .ok (.iload 4, 2) := by decide +kernel
theorem dL_law_537 : decode cL_law 537 = .ok (.iconst 1, 1) := by decide +kernel
theorem dL_law_538 : decode cL_law 538 = .ok (.iadd, 1) := by decide +kernel
theorem dL_law_539 : decode cL_law 539 = .ok (.iaload, 1) := by decide +kernel
theorem dL_law_540 : decode cL_law 540 = .ok (.invokevirtual 76, 3) := by decide +kernel
theorem dL_law_543 : decode cL_law 543 = .ok (.aload_n 2, 1) := by decide +kernel
theorem dL_law_544 : decode cL_law 544 = .ok (.aload_n 0, 1) := by decide +kernel
theorem dL_law_545 : decode cL_law 545 = .ok (.iload 4, 2) := by decide +kernel
theorem dL_law_547 : decode cL_law 547 = .ok (.iconst 1, 1) := by decide +kernel
theorem dL_law_548 : decode cL_law 548 = .ok (.iadd, 1) := by decide +kernel
theorem dL_law_549 : decode cL_law 549 = .ok (.iaload, 1) := by decide +kernel
theorem dL_law_550 : decode cL_law 550 = .ok (.invokevirtual 79, 3) := by decide +kernel
theorem dL_law_553 : decode cL_law 553 = .ok (.if_icmp .eq 208, 3) := by decide +kernel
theorem dL_law_556 : decode cL_law 556 = .ok (.iconst 0, 1) := by decide +kernel
theorem dL_law_557 : decode cL_law 557 = .ok (.ireturn, 1) := by decide +kernel
theorem dL_law_558 : decode cL_law 558 = .ok (.aload_n 1, 1) := by decide +kernel
theorem dL_law_559 : decode cL_law 559 = .ok (.aload_n 0, 1) := by decide +kernel
theorem dL_law_560 : decode cL_law 560 = .ok (.iload 4, 2) := by decide +kernel
theorem dL_law_562 : decode cL_law 562 = .ok (.iconst 1, 1) := by decide +kernel
theorem dL_law_563 : decode cL_law 563 = .ok (.iadd, 1) := by decide +kernel
theorem dL_law_564 : decode cL_law 564 = .ok (.iaload, 1) := by decide +kernel
theorem dL_law_565 : decode cL_law 565 = .ok (.aload_n 0, 1) := by decide +kernel
theorem dL_law_566 : decode cL_law 566 = .ok (.iload 4, 2) := by decide +kernel
theorem dL_law_568 : decode cL_law 568 = .ok (.iconst 2, 1) := by decide +kernel
theorem dL_law_569 : decode cL_law 569 = .ok (.iadd, 1) := by decide +kernel
theorem dL_law_570 : decode cL_law 570 = .ok (.iaload, 1) := by decide +kernel
theorem dL_law_571 : decode cL_law 571 = .ok (.invokevirtual 80, 3) := by decide +kernel
theorem dL_law_574 : decode cL_law 574 = .ok (.aload_n 2, 1) := by decide +kernel
theorem dL_law_575 : decode cL_law 575 = .ok (.aload_n 0, 1) := by decide +kernel
theorem dL_law_576 : decode cL_law 576 = .ok (.iload 4, 2) := by decide +kernel
theorem dL_law_578 : decode cL_law 578 = .ok (.iconst 1, 1) := by decide +kernel
theorem dL_law_579 : decode cL_law 579 = .ok (.iadd, 1) := by decide +kernel
theorem dL_law_580 : decode cL_law 580 = .ok (.iaload, 1) := by decide +kernel
theorem dL_law_581 : decode cL_law 581 = .ok (.aload_n 0, 1) := by decide +kernel
theorem dL_law_582 : decode cL_law 582 = .ok (.iload 4, 2) := by decide +kernel
theorem dL_law_584 : decode cL_law 584 = .ok (.iconst 2, 1) := by decide +kernel
theorem dL_law_585 : decode cL_law 585 = .ok (.iadd, 1) := by decide +kernel
theorem dL_law_586 : decode cL_law 586 = .ok (.iaload, 1) := by decide +kernel
theorem dL_law_587 : decode cL_law 587 = .ok (.invokevirtual 84, 3) := by decide +kernel
theorem dL_law_590 : decode cL_law 590 = .ok (.if_icmp .eq 171, 3) := by decide +kernel
theorem dL_law_593 : decode cL_law 593 = .ok (.iconst 0, 1) := by decide +kernel
theorem dL_law_594 : decode cL_law 594 = .ok (.ireturn, 1) := by decide +kernel
theorem dL_law_595 : decode cL_law 595 = .ok (.aload_n 1, 1) := by decide +kernel
theorem dL_law_596 : decode cL_law 596 = .ok (.aload_n 0, 1) := by decide +kernel
theorem dL_law_597 : decode cL_law 597 = .ok (.iload 4, 2) := by decide +kernel
theorem dL_law_599 : decode cL_law 599 = .ok (.iconst 1, 1) := by decide +kernel
end
section
theorem dL_law_600 : decode cL_law 600 = .ok (.iadd, 1) := by decide +kernel
theorem dL_law_601 : decode cL_law 601 = .ok (.iaload, 1) := by decide +kernel
theorem dL_law_602 : decode cL_law 602 = .ok (.invokevirtual 85, 3) := by decide +kernel
theorem dL_law_605 : decode cL_law 605 = .ok (.aload_n 2, 1) := by decide +kernel
theorem dL_law_606 : decode cL_law 606 = .ok (.aload_n 0, 1) := by decide +kernel
theorem dL_law_607 : decode cL_law 607 = .ok (.iload 4, 2) := by decide +kernel
theorem dL_law_609 : decode cL_law 609 = .ok (.iconst 1, 1) := by decide +kernel
theorem dL_law_610 : decode cL_law 610 = .ok (.iadd, 1) := by decide +kernel
theorem dL_law_611 : decode cL_law 611 = .ok (.iaload, 1) := by decide +kernel
theorem dL_law_612 : decode cL_law 612 = .ok (.invokevirtual 88, 3) := by decide +kernel
theorem dL_law_615 : decode cL_law 615 = .ok (.if_icmp .eq 146, 3) := by decide +kernel
theorem dL_law_618 : decode cL_law 618 = .ok (.iconst 0, 1) := by decide +kernel
theorem dL_law_619 : decode cL_law 619 = .ok (.ireturn, 1) := by decide +kernel
theorem dL_law_620 : decode cL_law 620 = .ok (.aload_n 1, 1) := by decide +kernel
theorem dL_law_621 : decode cL_law 621 = .ok (.aload_n 0, 1) := by decide +kernel
theorem dL_law_622 : decode cL_law 622 = .ok (.iload 4, 2) := by decide +kernel
theorem dL_law_624 : decode cL_law 624 = .ok (.iconst 1, 1) := by decide +kernel
theorem dL_law_625 : decode cL_law 625 = .ok (.iadd, 1) := by decide +kernel
theorem dL_law_626 : decode cL_law 626 = .ok (.iaload, 1) := by decide +kernel
theorem dL_law_627 : decode cL_law 627 = .ok (.aload_n 0, 1) := by decide +kernel
theorem dL_law_628 : decode cL_law 628 = .ok (.iload 4, 2) := by decide +kernel
theorem dL_law_630 : decode cL_law 630 = .ok (.iconst 2, 1) := by decide +kernel
theorem dL_law_631 : decode cL_law 631 = .ok (.iadd, 1) := by decide +kernel
theorem dL_law_632 : decode cL_law 632 = .ok (.iaload, 1) := by decide +kernel
theorem dL_law_633 : decode cL_law 633 = .ok (.invokevirtual 89, 3) := by decide +kernel
theorem dL_law_636 : decode cL_law 636 = .ok (.aload_n 2, 1) := by decide +kernel
theorem dL_law_637 : decode cL_law 637 = .ok (.aload_n 0, 1) := by decide +kernel
theorem dL_law_638 : decode cL_law 638 = .ok (.iload 4, 2) := by decide +kernel
theorem dL_law_640 : decode cL_law 640 = .ok (.iconst 1, 1) := by decide +kernel
theorem dL_law_641 : decode cL_law 641 = .ok (.iadd, 1) := by decide +kernel
theorem dL_law_642 : decode cL_law 642 = .ok (.iaload, 1) := by decide +kernel
theorem dL_law_643 : decode cL_law 643 = .ok (.aload_n 0, 1) := by decide +kernel
theorem dL_law_644 : decode cL_law 644 = .ok (.iload 4, 2) := by decide +kernel
theorem dL_law_646 : decode cL_law 646 = .ok (.iconst 2, 1) := by decide +kernel
theorem dL_law_647 : decode cL_law 647 = .ok (.iadd, 1) := by decide +kernel
theorem dL_law_648 : decode cL_law 648 = .ok (.iaload, 1) := by decide +kernel
theorem dL_law_649 : decode cL_law 649 = .ok (.invokevirtual 92, 3) := by decide +kernel
theorem dL_law_652 : decode cL_law 652 = .ok (.if_icmp .eq 109, 3) := by decide +kernel
theorem dL_law_655 : decode cL_law 655 = .ok (.iconst 0, 1) := by decide +kernel
theorem dL_law_656 : decode cL_law 656 = .ok (.ireturn, 1) := by decide +kernel
theorem dL_law_657 : decode cL_law 657 = .ok (.aload_n 1, 1) := by decide +kernel
theorem dL_law_658 : decode cL_law 658 = .ok (.aload_n 0, 1) := by decide +kernel
theorem dL_law_659 : decode cL_law 659 = .ok (.iload 4, 2) := by decide +kernel
theorem dL_law_661 : decode cL_law 661 = .ok (.iconst 1, 1) := by decide +kernel
theorem dL_law_662 : decode cL_law 662 = .ok (.iadd, 1) := by decide +kernel
theorem dL_law_663 : decode cL_law 663 = .ok (.iaload, 1) := by decide +kernel
theorem dL_law_664 : decode cL_law 664 = .ok (.aload_n 0, 1) := by decide +kernel
theorem dL_law_665 : decode cL_law 665 = .ok (.iload 4, 2) := by decide +kernel
theorem dL_law_667 : decode cL_law 667 = .ok (.iconst 2, 1) := by decide +kernel
theorem dL_law_668 : decode cL_law 668 = .ok (.iadd, 1) := by decide +kernel
theorem dL_law_669 : decode cL_law 669 = .ok (.iaload, 1) := by decide +kernel
theorem dL_law_670 : decode cL_law 670 = .ok (.aload_n 0, 1) := by decide +kernel
theorem dL_law_671 : decode cL_law 671 = .ok (.iload 4, 2) := by decide +kernel
theorem dL_law_673 : decode cL_law 673 = .ok (.iconst 3, 1) := by decide +kernel
theorem dL_law_674 : decode cL_law 674 = .ok (.iadd, 1) := by decide +kernel
theorem dL_law_675 : decode cL_law 675 = .ok (.iaload, 1) := by decide +kernel
theorem dL_law_676 : decode cL_law 676 = .ok (.aload_n 3, 1) := by decide +kernel
theorem dL_law_677 : decode cL_law 677 = .ok (.invokestatic 93, 3) := by decide +kernel
theorem dL_law_680 : decode cL_law 680 = .ok (.istore 5, 2) := by decide +kernel
theorem dL_law_682 : decode cL_law 682 = .ok (.aload_n 2, 1) := by decide +kernel
theorem dL_law_683 : decode cL_law 683 = .ok (.aload_n 0, 1) := by decide +kernel
theorem dL_law_684 : decode cL_law 684 = .ok (.iload 4, 2) := by decide +kernel
theorem dL_law_686 : decode cL_law 686 = .ok (.iconst 1, 1) := by decide +kernel
theorem dL_law_687 : decode cL_law 687 = .ok (.iadd, 1) := by decide +kernel
theorem dL_law_688 : decode cL_law 688 = .ok (.iaload, 1) := by decide +kernel
theorem dL_law_689 : decode cL_law 689 = .ok (.aload_n 0, 1) := by decide +kernel
theorem dL_law_690 : decode cL_law 690 = .ok (.iload 4, 2) := by decide +kernel
theorem dL_law_692 : decode cL_law 692 = .ok (.iconst 2, 1) := by decide +kernel
theorem dL_law_693 : decode cL_law 693 = .ok (.iadd, 1) := by decide +kernel
theorem dL_law_694 : decode cL_law 694 = .ok (.iaload, 1) := by decide +kernel
theorem dL_law_695 : decode cL_law 695 = .ok (.aload_n 0, 1) := by decide +kernel
theorem dL_law_696 : decode cL_law 696 = .ok (.iload 4, 2) := by decide +kernel
theorem dL_law_698 : decode cL_law 698 = .ok (.iconst 3, 1) := by decide +kernel
theorem dL_law_699 : decode cL_law 699 = .ok (.iadd, 1) := by decide +kernel
theorem dL_law_700 : decode cL_law 700 = .ok (.iaload, 1) := by decide +kernel
theorem dL_law_701 : decode cL_law 701 = .ok (.invokevirtual 98, 3) := by decide +kernel
theorem dL_law_704 : decode cL_law 704 = .ok (.lstore 6, 2) := by decide +kernel
theorem dL_law_706 : decode cL_law 706 = .ok (.aload_n 2, 1) := by decide +kernel
theorem dL_law_707 : decode cL_law 707 = .ok (.invokevirtual 99, 3) := by decide +kernel
theorem dL_law_710 : decode cL_law 710 = .ok (.iload 5, 2) := by decide +kernel
theorem dL_law_712 : decode cL_law 712 = .ok (.if_icmp .eq 5, 3) := by decide +kernel
theorem dL_law_715 : decode cL_law 715 = .ok (.iconst 0, 1) := by decide +kernel
theorem dL_law_716 : decode cL_law 716 = .ok (.ireturn, 1) := by decide +kernel
theorem dL_law_717 : decode cL_law 717 = .ok (.iload 5, 2) := by decide +kernel
theorem dL_law_719 : decode cL_law 719 = .ok (.ifCond .ne 14, 3) := by decide +kernel
theorem dL_law_722 : decode cL_law 722 = .ok (.aload_n 3, 1) := by decide +kernel
theorem dL_law_723 : decode cL_law 723 = .ok (.iconst 0, 1) := by decide +kernel
theorem dL_law_724 : decode cL_law 724 = .ok (.laload, 1) := by decide +kernel
theorem dL_law_725 : decode cL_law 725 = .ok (.lload 6, 2) := by decide +kernel
theorem dL_law_727 : decode cL_law 727 = .ok (.lcmp, 1) := by decide +kernel
theorem dL_law_728 : decode cL_law 728 = .ok (.ifCond .eq 5, 3) := by decide +kernel
theorem dL_law_731 : decode cL_law 731 = .ok (.iconst 0, 1) := by decide +kernel
theorem dL_law_732 : decode cL_law 732 = .ok (.ireturn, 1) := by decide +kernel
theorem dL_law_733 : decode cL_law 733 = .ok (.goto 28, 3) := by decide +kernel
theorem dL_law_736 : decode cL_law 736 = .ok (.aload_n 1, 1) := by decide +kernel
theorem dL_law_737 : decode cL_law 737 = .ok (.aload_n 0, 1) := by decide +kernel
theorem dL_law_738 : decode cL_law 738 = .ok (.iload 4, 2) := by decide +kernel
theorem dL_law_740 : decode cL_law 740 = .ok (.iconst 1, 1) := by decide +kernel
theorem dL_law_741 : decode cL_law 741 = .ok (.iadd, 1) := by decide +kernel
theorem dL_law_742 : decode cL_law 742 = .ok (.iaload, 1) := by decide +kernel
theorem dL_law_743 : decode cL_law 743 = .ok (.invokevirtual 102, 3) := by decide +kernel
theorem dL_law_746 : decode cL_law 746 = .ok (.aload_n 2, 1) := by decide +kernel
theorem dL_law_747 : decode cL_law 747 = .ok (.aload_n 0, 1) := by decide +kernel
theorem dL_law_748 : decode cL_law 748 = .ok (.iload 4, 2) := by decide +kernel
theorem dL_law_750 : decode cL_law 750 = .ok (.iconst 1, 1) := by decide +kernel
theorem dL_law_751 : decode cL_law 751 = .ok (.iadd, 1) := by decide +kernel
theorem dL_law_752 : decode cL_law 752 = .ok (.iaload, 1) := by decide +kernel
theorem dL_law_753 : decode cL_law 753 = .ok (.invokevirtual 105, 3) := by decide +kernel
theorem dL_law_756 : decode cL_law 756 = .ok (.if_icmp .eq 5, 3) := by decide +kernel
theorem dL_law_759 : decode cL_law 759 = .ok (.iconst 0, 1) := by decide +kernel
theorem dL_law_760 : decode cL_law 760 = .ok (.ireturn, 1) := by decide +kernel
theorem dL_law_761 : decode cL_law 761 = .ok (.iinc 4 4, 3) := by decide +kernel
theorem dL_law_764 : decode cL_law 764 = .ok (.goto (-741), 3) := by decide +kernel
theorem dL_law_767 : decode cL_law 767 = .ok (.iconst 1, 1) := by decide +kernel
theorem dL_law_768 : decode cL_law 768 = .ok (.ireturn, 1) := by decide +kernel
end
section
/-- the tables' words that outlive a warming -/
def wA : List Cond := lw_tbl.filter goodWord
theorem kA {i : Nat} {w : Cond} (h : tables_1[i]? = some w) (g : goodWord w = true) : w ∈ wA := List.mem_filter.mpr ⟨List.mem_append_right _ (List.mem_of_getElem? h), g⟩
theorem kS {i : Nat} {w : Cond} (h : (k2_sels lw_privs)[i]? = some w) (g : goodWord w = true) : w ∈ wA := List.mem_filter.mpr ⟨List.mem_append_left _ (List.mem_of_getElem? h), g⟩
theorem wA_hts {args : Array Value} {s : State} (h : ∀ w ∈ lw_tbl, w.before args s = true) : ∀ w ∈ wA, w.before args s = true := fun w hw => h w (List.mem_filter.mp hw).1
theorem wA_good {w : Cond} (h : w ∈ wA) : w ∈ wA ∧ ((w.onTables && w.keeps) = true ∨ ∃ ty, w = .arrayClass ty) := ⟨h, good_of_word (List.mem_filter.mp h).2⟩
abbrev wz (y : MethodName) (b : ByteArray) (n : Nat) (r : Option FieldType) : List Cond := .code y b n r :: wA
theorem gdC {y : MethodName} {b : ByteArray} {n : Nat} {r : Option FieldType} (h : Cond.code y b n r ∈ wA) : GoodIn wA (wz y b n r) := fun w hw => (List.mem_cons.mp hw).elim (fun e => by rw [e]; exact wA_good h) wA_good
theorem gdV {own : String} {idx : Nat} {C : String} {y : MethodName} {b : ByteArray} {n : Nat} {r : Option FieldType} (h1 : Cond.methodLink own idx y ∈ wA) (h2 : Cond.instanceMethod y ∈ wA) (h3 : Cond.selects C y y ∈ wA) (h4 : Cond.initialized C ∈ wA) (h5 : Cond.code y b n r ∈ wA) : GoodIn wA (wsV own idx C y (wz y b n r)) := by
  intro w hw
  rcases List.mem_append.mp hw with hw | hw
  · simp only [List.mem_cons, List.not_mem_nil, or_false] at hw
    rcases hw with rfl | rfl | rfl | rfl
    · exact wA_good h1
    · exact wA_good h2
    · exact wA_good h3
    · exact wA_good h4
  · exact gdC h5 w hw
theorem gdS {own : String} {idx : Nat} {y : MethodName} {b : ByteArray} {n : Nat} {r : Option FieldType} (h1 : Cond.methodLink own idx y ∈ wA) (h2 : Cond.static y ∈ wA) (h4 : Cond.initialized y.cls ∈ wA) (h5 : Cond.code y b n r ∈ wA) : GoodIn wA (va_wsS own idx y (wz y b n r)) := by
  intro w hw
  rcases List.mem_append.mp hw with hw | hw
  · simp only [List.mem_cons, List.not_mem_nil, or_false] at hw
    rcases hw with rfl | rfl | rfl
    · exact wA_good h1
    · exact wA_good h2
    · exact wA_good h4
  · exact gdC h5 w hw
def kNest : Cond → Bool
  | .fieldLinkNest _ _ _ _ _ _ => true
  | .methodLinkNest _ _ _ _ => true
  | _ => false
/-- the words between nest mates -/
def wN : List Cond := tables_1.filter kNest
theorem kN {i : Nat} {w : Cond} (h : tables_1[i]? = some w) (g : kNest w = true) : w ∈ wN := List.mem_filter.mpr ⟨List.mem_of_getElem? h, g⟩
theorem k_0 : (Jvm.Cond.initialized "ChordGrammarsLaw") ∈ wA := kA (i := 0) (by decide +kernel) rfl
theorem k_1 : (Jvm.Cond.initialized "ChordGrammars") ∈ wA := kA (i := 1) (by decide +kernel) rfl
theorem k_2 : (Jvm.Cond.initialized "ChordGrammars$Key") ∈ wA := kA (i := 2) (by decide +kernel) rfl
theorem k_3 : (Jvm.Cond.initialized "ChordGrammars$Tariff") ∈ wA := kA (i := 3) (by decide +kernel) rfl
theorem k_4 : (Jvm.Cond.initialized "ChordGrammars$Slots") ∈ wA := kA (i := 4) (by decide +kernel) rfl
theorem k_5 : (Jvm.Cond.initialized "ChordGrammars$Draft") ∈ wA := kA (i := 5) (by decide +kernel) rfl
theorem k_6 : (Jvm.Cond.initialized "ChordGrammars$Grammar") ∈ wA := kA (i := 6) (by decide +kernel) rfl
theorem k_7 : (Jvm.Cond.initialized "ChordGrammars$Reader") ∈ wA := kA (i := 7) (by decide +kernel) rfl
theorem k_8 : (Jvm.Cond.initialized "ChordGrammars$Chart") ∈ wA := kA (i := 8) (by decide +kernel) rfl
theorem k_9 : (Jvm.Cond.initialized "ChordGrammars$Symbols") ∈ wA := kA (i := 9) (by decide +kernel) rfl
theorem k_10 : (Jvm.Cond.initialized "ChordGrammars$Tree") ∈ wA := kA (i := 10) (by decide +kernel) rfl
theorem k_11 : (Jvm.Cond.initialized "ChordGrammarsModel") ∈ wA := kA (i := 11) (by decide +kernel) rfl
theorem k_12 : (Jvm.Cond.initialized "java/lang/String") ∈ wA := kA (i := 12) (by decide +kernel) rfl
theorem k_13 : (Jvm.Cond.initialized "java/lang/StringLatin1") ∈ wA := kA (i := 13) (by decide +kernel) rfl
theorem k_14 : (Jvm.Cond.initialized "java/lang/Math") ∈ wA := kA (i := 14) (by decide +kernel) rfl
theorem k_15 : (Jvm.Cond.initialized "java/lang/StringUTF16") ∈ wA := kA (i := 15) (by decide +kernel) rfl
theorem k_16 : (Jvm.Cond.initialized "jdk/internal/util/Preconditions") ∈ wA := kA (i := 16) (by decide +kernel) rfl
theorem k_17 : (Jvm.Cond.initialized "java/lang/Character") ∈ wA := kA (i := 17) (by decide +kernel) rfl
theorem k_18 : (Jvm.Cond.initialized "java/lang/Integer") ∈ wA := kA (i := 18) (by decide +kernel) rfl
theorem k_19 : (Jvm.Cond.initialized "java/lang/System") ∈ wA := kA (i := 19) (by decide +kernel) rfl
theorem k_20 : (Jvm.Cond.initialized "java/lang/Throwable") ∈ wA := kA (i := 20) (by decide +kernel) rfl
theorem k_21 : (Jvm.Cond.initialized "java/lang/Exception") ∈ wA := kA (i := 21) (by decide +kernel) rfl
theorem k_22 : (Jvm.Cond.initialized "java/lang/RuntimeException") ∈ wA := kA (i := 22) (by decide +kernel) rfl
theorem k_23 : (Jvm.Cond.initialized "java/lang/IndexOutOfBoundsException") ∈ wA := kA (i := 23) (by decide +kernel) rfl
theorem k_24 : (Jvm.Cond.initialized "java/lang/ArrayIndexOutOfBoundsException") ∈ wA := kA (i := 24) (by decide +kernel) rfl
theorem k_25 : (Jvm.Cond.classLink "ChordGrammarsLaw" (8 : Nat) "ChordGrammars") ∈ wA := kA (i := 25) (by decide +kernel) rfl
theorem k_26 : (Jvm.Cond.instantiable "ChordGrammars" (8 : Nat)) ∈ wA := kA (i := 26) (by decide +kernel) rfl
theorem k_27 : (Jvm.Cond.methodLink "ChordGrammarsLaw" (15 : Nat) ({ cls := "ChordGrammars", name := "<init>", desc := "()V" } : Jvm.MethodName)) ∈ wA := kA (i := 27) (by decide +kernel) rfl
theorem k_28 : (Jvm.Cond.instanceMethod ({ cls := "ChordGrammars", name := "<init>", desc := "()V" } : Jvm.MethodName)) ∈ wA := kA (i := 28) (by decide +kernel) rfl
theorem k_29 : (Jvm.Cond.code ({ cls := "ChordGrammars", name := "<init>", desc := "()V" } : Jvm.MethodName) prog_1_method_1_code (1 : Nat) (Option.none : Option Jvm.ClassFile.FieldType)) ∈ wA := kA (i := 29) (by decide +kernel) rfl
theorem k_30 : (Jvm.Cond.methodLink "ChordGrammars" (3 : Nat) ({ cls := "java/lang/Object", name := "<init>", desc := "()V" } : Jvm.MethodName)) ∈ wA := kA (i := 30) (by decide +kernel) rfl
theorem k_31 : (Jvm.Cond.instanceMethod ({ cls := "java/lang/Object", name := "<init>", desc := "()V" } : Jvm.MethodName)) ∈ wA := kA (i := 31) (by decide +kernel) rfl
theorem k_32 : (Jvm.Cond.code ({ cls := "java/lang/Object", name := "<init>", desc := "()V" } : Jvm.MethodName) object_method_1_code (1 : Nat) (Option.none : Option Jvm.ClassFile.FieldType)) ∈ wA := kA (i := 32) (by decide +kernel) rfl
theorem k_33 : (Jvm.Cond.classLink "ChordGrammars" (9 : Nat) "ChordGrammars$Key") ∈ wA := kA (i := 33) (by decide +kernel) rfl
theorem k_34 : (Jvm.Cond.instantiable "ChordGrammars$Key" (2 : Nat)) ∈ wA := kA (i := 34) (by decide +kernel) rfl
theorem kn_35 : (Jvm.Cond.methodLinkNest "ChordGrammars" (11 : Nat) ({ cls := "ChordGrammars$Key", name := "<init>", desc := "()V" } : Jvm.MethodName) "ChordGrammars") ∈ wN := kN (i := 35) (by decide +kernel) rfl
theorem k_36 : (Jvm.Cond.instanceMethod ({ cls := "ChordGrammars$Key", name := "<init>", desc := "()V" } : Jvm.MethodName)) ∈ wA := kA (i := 36) (by decide +kernel) rfl
theorem k_37 : (Jvm.Cond.code ({ cls := "ChordGrammars$Key", name := "<init>", desc := "()V" } : Jvm.MethodName) prog_5_method_1_code (1 : Nat) (Option.none : Option Jvm.ClassFile.FieldType)) ∈ wA := kA (i := 37) (by decide +kernel) rfl
theorem k_38 : (Jvm.Cond.methodLink "ChordGrammars$Key" (3 : Nat) ({ cls := "java/lang/Object", name := "<init>", desc := "()V" } : Jvm.MethodName)) ∈ wA := kA (i := 38) (by decide +kernel) rfl
theorem k_39 : (Jvm.Cond.fieldLink "ChordGrammars$Key" (9 : Nat) "ChordGrammars$Key" "tonic" "I") ∈ wA := kA (i := 39) (by decide +kernel) rfl
theorem k_40 : (Jvm.Cond.fieldLink "ChordGrammars$Key" (15 : Nat) "ChordGrammars$Key" "isMinor" "Z") ∈ wA := kA (i := 40) (by decide +kernel) rfl
theorem k_46 : (Jvm.Cond.classLink "ChordGrammars" (16 : Nat) "ChordGrammars$Tariff") ∈ wA := kA (i := 46) (by decide +kernel) rfl
theorem k_47 : (Jvm.Cond.instantiable "ChordGrammars$Tariff" (1 : Nat)) ∈ wA := kA (i := 47) (by decide +kernel) rfl
theorem kn_48 : (Jvm.Cond.methodLinkNest "ChordGrammars" (18 : Nat) ({ cls := "ChordGrammars$Tariff", name := "<init>", desc := "()V" } : Jvm.MethodName) "ChordGrammars") ∈ wN := kN (i := 48) (by decide +kernel) rfl
theorem k_49 : (Jvm.Cond.instanceMethod ({ cls := "ChordGrammars$Tariff", name := "<init>", desc := "()V" } : Jvm.MethodName)) ∈ wA := kA (i := 49) (by decide +kernel) rfl
theorem k_50 : (Jvm.Cond.code ({ cls := "ChordGrammars$Tariff", name := "<init>", desc := "()V" } : Jvm.MethodName) prog_9_method_1_code (1 : Nat) (Option.none : Option Jvm.ClassFile.FieldType)) ∈ wA := kA (i := 50) (by decide +kernel) rfl
theorem k_51 : (Jvm.Cond.methodLink "ChordGrammars$Tariff" (3 : Nat) ({ cls := "java/lang/Object", name := "<init>", desc := "()V" } : Jvm.MethodName)) ∈ wA := kA (i := 51) (by decide +kernel) rfl
theorem k_52 : (Jvm.Cond.fieldLink "ChordGrammars$Tariff" (9 : Nat) "ChordGrammars$Tariff" "costs" "[I") ∈ wA := kA (i := 52) (by decide +kernel) rfl
theorem k_56 : (Jvm.Cond.arrayClass Jvm.ClassFile.FieldType.int) ∈ wA := kA (i := 56) (by decide +kernel) rfl
theorem k_57 : (Jvm.Cond.classLink "ChordGrammars" (23 : Nat) "ChordGrammars$Slots") ∈ wA := kA (i := 57) (by decide +kernel) rfl
theorem k_58 : (Jvm.Cond.instantiable "ChordGrammars$Slots" (4 : Nat)) ∈ wA := kA (i := 58) (by decide +kernel) rfl
theorem kn_59 : (Jvm.Cond.methodLinkNest "ChordGrammars" (25 : Nat) ({ cls := "ChordGrammars$Slots", name := "<init>", desc := "()V" } : Jvm.MethodName) "ChordGrammars") ∈ wN := kN (i := 59) (by decide +kernel) rfl
theorem k_60 : (Jvm.Cond.instanceMethod ({ cls := "ChordGrammars$Slots", name := "<init>", desc := "()V" } : Jvm.MethodName)) ∈ wA := kA (i := 60) (by decide +kernel) rfl
theorem k_61 : (Jvm.Cond.code ({ cls := "ChordGrammars$Slots", name := "<init>", desc := "()V" } : Jvm.MethodName) prog_7_method_1_code (1 : Nat) (Option.none : Option Jvm.ClassFile.FieldType)) ∈ wA := kA (i := 61) (by decide +kernel) rfl
theorem k_62 : (Jvm.Cond.methodLink "ChordGrammars$Slots" (3 : Nat) ({ cls := "java/lang/Object", name := "<init>", desc := "()V" } : Jvm.MethodName)) ∈ wA := kA (i := 62) (by decide +kernel) rfl
theorem k_63 : (Jvm.Cond.fieldLink "ChordGrammars$Slots" (9 : Nat) "ChordGrammars$Slots" "sets" "[I") ∈ wA := kA (i := 63) (by decide +kernel) rfl
theorem kn_64 : (Jvm.Cond.fieldLinkNest "ChordGrammars$Symbols" (34 : Nat) "ChordGrammars$Slots" "sets" "[I" "ChordGrammars") ∈ wN := kN (i := 64) (by decide +kernel) rfl
theorem kn_65 : (Jvm.Cond.fieldLinkNest "ChordGrammars" (105 : Nat) "ChordGrammars$Slots" "sets" "[I" "ChordGrammars") ∈ wN := kN (i := 65) (by decide +kernel) rfl
theorem k_66 : (Jvm.Cond.fieldLink "ChordGrammars$Slots" (15 : Nat) "ChordGrammars$Slots" "basses" "[I") ∈ wA := kA (i := 66) (by decide +kernel) rfl
theorem kn_67 : (Jvm.Cond.fieldLinkNest "ChordGrammars$Symbols" (37 : Nat) "ChordGrammars$Slots" "basses" "[I" "ChordGrammars") ∈ wN := kN (i := 67) (by decide +kernel) rfl
theorem kn_68 : (Jvm.Cond.fieldLinkNest "ChordGrammars" (109 : Nat) "ChordGrammars$Slots" "basses" "[I" "ChordGrammars") ∈ wN := kN (i := 68) (by decide +kernel) rfl
theorem k_69 : (Jvm.Cond.fieldLink "ChordGrammars$Slots" (18 : Nat) "ChordGrammars$Slots" "pitches" "[I") ∈ wA := kA (i := 69) (by decide +kernel) rfl
theorem kn_70 : (Jvm.Cond.fieldLinkNest "ChordGrammars$Chart" (53 : Nat) "ChordGrammars$Slots" "pitches" "[I" "ChordGrammars") ∈ wN := kN (i := 70) (by decide +kernel) rfl
theorem k_71 : (Jvm.Cond.fieldLink "ChordGrammars$Slots" (21 : Nat) "ChordGrammars$Slots" "count" "I") ∈ wA := kA (i := 71) (by decide +kernel) rfl
theorem kn_72 : (Jvm.Cond.fieldLinkNest "ChordGrammars$Symbols" (18 : Nat) "ChordGrammars$Slots" "count" "I" "ChordGrammars") ∈ wN := kN (i := 72) (by decide +kernel) rfl
theorem kn_73 : (Jvm.Cond.fieldLinkNest "ChordGrammars$Chart" (48 : Nat) "ChordGrammars$Slots" "count" "I" "ChordGrammars") ∈ wN := kN (i := 73) (by decide +kernel) rfl
theorem kn_74 : (Jvm.Cond.fieldLinkNest "ChordGrammars" (98 : Nat) "ChordGrammars$Slots" "count" "I" "ChordGrammars") ∈ wN := kN (i := 74) (by decide +kernel) rfl
theorem k_84 : (Jvm.Cond.classLink "ChordGrammars" (30 : Nat) "ChordGrammars$Draft") ∈ wA := kA (i := 84) (by decide +kernel) rfl
theorem k_85 : (Jvm.Cond.instantiable "ChordGrammars$Draft" (2 : Nat)) ∈ wA := kA (i := 85) (by decide +kernel) rfl
theorem kn_86 : (Jvm.Cond.methodLinkNest "ChordGrammars" (32 : Nat) ({ cls := "ChordGrammars$Draft", name := "<init>", desc := "()V" } : Jvm.MethodName) "ChordGrammars") ∈ wN := kN (i := 86) (by decide +kernel) rfl
theorem k_87 : (Jvm.Cond.instanceMethod ({ cls := "ChordGrammars$Draft", name := "<init>", desc := "()V" } : Jvm.MethodName)) ∈ wA := kA (i := 87) (by decide +kernel) rfl
theorem k_88 : (Jvm.Cond.code ({ cls := "ChordGrammars$Draft", name := "<init>", desc := "()V" } : Jvm.MethodName) prog_3_method_1_code (1 : Nat) (Option.none : Option Jvm.ClassFile.FieldType)) ∈ wA := kA (i := 88) (by decide +kernel) rfl
theorem k_89 : (Jvm.Cond.methodLink "ChordGrammars$Draft" (3 : Nat) ({ cls := "java/lang/Object", name := "<init>", desc := "()V" } : Jvm.MethodName)) ∈ wA := kA (i := 89) (by decide +kernel) rfl
theorem k_90 : (Jvm.Cond.fieldLink "ChordGrammars$Draft" (9 : Nat) "ChordGrammars$Draft" "octets" "[B") ∈ wA := kA (i := 90) (by decide +kernel) rfl
theorem k_91 : (Jvm.Cond.fieldLink "ChordGrammars$Draft" (15 : Nat) "ChordGrammars$Draft" "size" "I") ∈ wA := kA (i := 91) (by decide +kernel) rfl
theorem kn_92 : (Jvm.Cond.fieldLinkNest "ChordGrammars" (80 : Nat) "ChordGrammars$Draft" "size" "I" "ChordGrammars") ∈ wN := kN (i := 92) (by decide +kernel) rfl
theorem kn_93 : (Jvm.Cond.fieldLinkNest "ChordGrammars$Reader" (88 : Nat) "ChordGrammars$Draft" "size" "I" "ChordGrammars") ∈ wN := kN (i := 93) (by decide +kernel) rfl
theorem k_99 : (Jvm.Cond.arrayClass Jvm.ClassFile.FieldType.byte) ∈ wA := kA (i := 99) (by decide +kernel) rfl
theorem k_100 : (Jvm.Cond.classLink "ChordGrammars" (37 : Nat) "ChordGrammars$Grammar") ∈ wA := kA (i := 100) (by decide +kernel) rfl
theorem k_101 : (Jvm.Cond.instantiable "ChordGrammars$Grammar" (6 : Nat)) ∈ wA := kA (i := 101) (by decide +kernel) rfl
theorem kn_102 : (Jvm.Cond.methodLinkNest "ChordGrammars" (39 : Nat) ({ cls := "ChordGrammars$Grammar", name := "<init>", desc := "()V" } : Jvm.MethodName) "ChordGrammars") ∈ wN := kN (i := 102) (by decide +kernel) rfl
theorem k_103 : (Jvm.Cond.instanceMethod ({ cls := "ChordGrammars$Grammar", name := "<init>", desc := "()V" } : Jvm.MethodName)) ∈ wA := kA (i := 103) (by decide +kernel) rfl
theorem k_104 : (Jvm.Cond.code ({ cls := "ChordGrammars$Grammar", name := "<init>", desc := "()V" } : Jvm.MethodName) prog_4_method_1_code (1 : Nat) (Option.none : Option Jvm.ClassFile.FieldType)) ∈ wA := kA (i := 104) (by decide +kernel) rfl
theorem k_105 : (Jvm.Cond.methodLink "ChordGrammars$Grammar" (3 : Nat) ({ cls := "java/lang/Object", name := "<init>", desc := "()V" } : Jvm.MethodName)) ∈ wA := kA (i := 105) (by decide +kernel) rfl
theorem k_106 : (Jvm.Cond.fieldLink "ChordGrammars$Grammar" (9 : Nat) "ChordGrammars$Grammar" "lefts" "[I") ∈ wA := kA (i := 106) (by decide +kernel) rfl
theorem kn_107 : (Jvm.Cond.fieldLinkNest "ChordGrammars$Tree" (58 : Nat) "ChordGrammars$Grammar" "lefts" "[I" "ChordGrammars") ∈ wN := kN (i := 107) (by decide +kernel) rfl
theorem kn_108 : (Jvm.Cond.fieldLinkNest "ChordGrammars$Reader" (64 : Nat) "ChordGrammars$Grammar" "lefts" "[I" "ChordGrammars") ∈ wN := kN (i := 108) (by decide +kernel) rfl
theorem kn_109 : (Jvm.Cond.fieldLinkNest "ChordGrammars$Chart" (89 : Nat) "ChordGrammars$Grammar" "lefts" "[I" "ChordGrammars") ∈ wN := kN (i := 109) (by decide +kernel) rfl
theorem k_110 : (Jvm.Cond.fieldLink "ChordGrammars$Grammar" (15 : Nat) "ChordGrammars$Grammar" "ones" "[I") ∈ wA := kA (i := 110) (by decide +kernel) rfl
theorem kn_111 : (Jvm.Cond.fieldLinkNest "ChordGrammars$Reader" (67 : Nat) "ChordGrammars$Grammar" "ones" "[I" "ChordGrammars") ∈ wN := kN (i := 111) (by decide +kernel) rfl
theorem kn_112 : (Jvm.Cond.fieldLinkNest "ChordGrammars$Chart" (92 : Nat) "ChordGrammars$Grammar" "ones" "[I" "ChordGrammars") ∈ wN := kN (i := 112) (by decide +kernel) rfl
theorem kn_113 : (Jvm.Cond.fieldLinkNest "ChordGrammars$Tree" (102 : Nat) "ChordGrammars$Grammar" "ones" "[I" "ChordGrammars") ∈ wN := kN (i := 113) (by decide +kernel) rfl
theorem k_114 : (Jvm.Cond.fieldLink "ChordGrammars$Grammar" (18 : Nat) "ChordGrammars$Grammar" "twos" "[I") ∈ wA := kA (i := 114) (by decide +kernel) rfl
theorem kn_115 : (Jvm.Cond.fieldLinkNest "ChordGrammars$Chart" (78 : Nat) "ChordGrammars$Grammar" "twos" "[I" "ChordGrammars") ∈ wN := kN (i := 115) (by decide +kernel) rfl
theorem kn_116 : (Jvm.Cond.fieldLinkNest "ChordGrammars$Reader" (70 : Nat) "ChordGrammars$Grammar" "twos" "[I" "ChordGrammars") ∈ wN := kN (i := 116) (by decide +kernel) rfl
theorem kn_117 : (Jvm.Cond.fieldLinkNest "ChordGrammars$Tree" (99 : Nat) "ChordGrammars$Grammar" "twos" "[I" "ChordGrammars") ∈ wN := kN (i := 117) (by decide +kernel) rfl
theorem k_118 : (Jvm.Cond.fieldLink "ChordGrammars$Grammar" (21 : Nat) "ChordGrammars$Grammar" "costs" "[I") ∈ wA := kA (i := 118) (by decide +kernel) rfl
theorem kn_119 : (Jvm.Cond.fieldLinkNest "ChordGrammars$Reader" (73 : Nat) "ChordGrammars$Grammar" "costs" "[I" "ChordGrammars") ∈ wN := kN (i := 119) (by decide +kernel) rfl
theorem kn_120 : (Jvm.Cond.fieldLinkNest "ChordGrammars$Chart" (102 : Nat) "ChordGrammars$Grammar" "costs" "[I" "ChordGrammars") ∈ wN := kN (i := 120) (by decide +kernel) rfl
theorem k_121 : (Jvm.Cond.fieldLink "ChordGrammars$Grammar" (24 : Nat) "ChordGrammars$Grammar" "order" "[I") ∈ wA := kA (i := 121) (by decide +kernel) rfl
theorem kn_122 : (Jvm.Cond.fieldLinkNest "ChordGrammars$Chart" (75 : Nat) "ChordGrammars$Grammar" "order" "[I" "ChordGrammars") ∈ wN := kN (i := 122) (by decide +kernel) rfl
theorem kn_123 : (Jvm.Cond.fieldLinkNest "ChordGrammars$Reader" (110 : Nat) "ChordGrammars$Grammar" "order" "[I" "ChordGrammars") ∈ wN := kN (i := 123) (by decide +kernel) rfl
theorem k_124 : (Jvm.Cond.fieldLink "ChordGrammars$Grammar" (27 : Nat) "ChordGrammars$Grammar" "rules" "I") ∈ wA := kA (i := 124) (by decide +kernel) rfl
theorem kn_125 : (Jvm.Cond.fieldLinkNest "ChordGrammars$Reader" (29 : Nat) "ChordGrammars$Grammar" "rules" "I" "ChordGrammars") ∈ wN := kN (i := 125) (by decide +kernel) rfl
theorem kn_126 : (Jvm.Cond.fieldLinkNest "ChordGrammars$Chart" (72 : Nat) "ChordGrammars$Grammar" "rules" "I" "ChordGrammars") ∈ wN := kN (i := 126) (by decide +kernel) rfl
theorem kn_127 : (Jvm.Cond.fieldLinkNest "ChordGrammars$Tree" (94 : Nat) "ChordGrammars$Grammar" "rules" "I" "ChordGrammars") ∈ wN := kN (i := 127) (by decide +kernel) rfl
theorem kn_128 : (Jvm.Cond.fieldLinkNest "ChordGrammars" (91 : Nat) "ChordGrammars$Grammar" "rules" "I" "ChordGrammars") ∈ wN := kN (i := 128) (by decide +kernel) rfl
theorem k_142 : (Jvm.Cond.classLink "ChordGrammars" (44 : Nat) "ChordGrammars$Reader") ∈ wA := kA (i := 142) (by decide +kernel) rfl
theorem k_143 : (Jvm.Cond.instantiable "ChordGrammars$Reader" (4 : Nat)) ∈ wA := kA (i := 143) (by decide +kernel) rfl
theorem kn_144 : (Jvm.Cond.methodLinkNest "ChordGrammars" (46 : Nat) ({ cls := "ChordGrammars$Reader", name := "<init>", desc := "()V" } : Jvm.MethodName) "ChordGrammars") ∈ wN := kN (i := 144) (by decide +kernel) rfl
theorem k_145 : (Jvm.Cond.instanceMethod ({ cls := "ChordGrammars$Reader", name := "<init>", desc := "()V" } : Jvm.MethodName)) ∈ wA := kA (i := 145) (by decide +kernel) rfl
theorem k_146 : (Jvm.Cond.code ({ cls := "ChordGrammars$Reader", name := "<init>", desc := "()V" } : Jvm.MethodName) prog_6_method_1_code (1 : Nat) (Option.none : Option Jvm.ClassFile.FieldType)) ∈ wA := kA (i := 146) (by decide +kernel) rfl
theorem k_147 : (Jvm.Cond.methodLink "ChordGrammars$Reader" (3 : Nat) ({ cls := "java/lang/Object", name := "<init>", desc := "()V" } : Jvm.MethodName)) ∈ wA := kA (i := 147) (by decide +kernel) rfl
theorem k_148 : (Jvm.Cond.classLink "ChordGrammars$Reader" (9 : Nat) "ChordGrammars$Grammar") ∈ wA := kA (i := 148) (by decide +kernel) rfl
theorem kn_149 : (Jvm.Cond.methodLinkNest "ChordGrammars$Reader" (11 : Nat) ({ cls := "ChordGrammars$Grammar", name := "<init>", desc := "()V" } : Jvm.MethodName) "ChordGrammars") ∈ wN := kN (i := 149) (by decide +kernel) rfl
theorem k_150 : (Jvm.Cond.fieldLink "ChordGrammars$Reader" (12 : Nat) "ChordGrammars$Reader" "found" "LChordGrammars$Grammar;") ∈ wA := kA (i := 150) (by decide +kernel) rfl
theorem kn_151 : (Jvm.Cond.fieldLinkNest "ChordGrammars" (84 : Nat) "ChordGrammars$Reader" "found" "LChordGrammars$Grammar;" "ChordGrammars") ∈ wN := kN (i := 151) (by decide +kernel) rfl
theorem k_152 : (Jvm.Cond.fieldLink "ChordGrammars$Reader" (18 : Nat) "ChordGrammars$Reader" "leftPlaces" "[I") ∈ wA := kA (i := 152) (by decide +kernel) rfl
theorem k_153 : (Jvm.Cond.fieldLink "ChordGrammars$Reader" (22 : Nat) "ChordGrammars$Reader" "reach" "[I") ∈ wA := kA (i := 153) (by decide +kernel) rfl
theorem k_154 : (Jvm.Cond.fieldLink "ChordGrammars$Reader" (25 : Nat) "ChordGrammars$Reader" "place" "I") ∈ wA := kA (i := 154) (by decide +kernel) rfl
theorem k_164 : (Jvm.Cond.classLink "ChordGrammars" (51 : Nat) "ChordGrammars$Chart") ∈ wA := kA (i := 164) (by decide +kernel) rfl
theorem k_165 : (Jvm.Cond.instantiable "ChordGrammars$Chart" (7 : Nat)) ∈ wA := kA (i := 165) (by decide +kernel) rfl
theorem kn_166 : (Jvm.Cond.methodLinkNest "ChordGrammars" (53 : Nat) ({ cls := "ChordGrammars$Chart", name := "<init>", desc := "()V" } : Jvm.MethodName) "ChordGrammars") ∈ wN := kN (i := 166) (by decide +kernel) rfl
theorem k_167 : (Jvm.Cond.instanceMethod ({ cls := "ChordGrammars$Chart", name := "<init>", desc := "()V" } : Jvm.MethodName)) ∈ wA := kA (i := 167) (by decide +kernel) rfl
theorem k_168 : (Jvm.Cond.code ({ cls := "ChordGrammars$Chart", name := "<init>", desc := "()V" } : Jvm.MethodName) prog_2_method_1_code (1 : Nat) (Option.none : Option Jvm.ClassFile.FieldType)) ∈ wA := kA (i := 168) (by decide +kernel) rfl
theorem k_169 : (Jvm.Cond.methodLink "ChordGrammars$Chart" (3 : Nat) ({ cls := "java/lang/Object", name := "<init>", desc := "()V" } : Jvm.MethodName)) ∈ wA := kA (i := 169) (by decide +kernel) rfl
theorem k_170 : (Jvm.Cond.classLink "ChordGrammars$Chart" (9 : Nat) "ChordGrammars$Grammar") ∈ wA := kA (i := 170) (by decide +kernel) rfl
theorem kn_171 : (Jvm.Cond.methodLinkNest "ChordGrammars$Chart" (11 : Nat) ({ cls := "ChordGrammars$Grammar", name := "<init>", desc := "()V" } : Jvm.MethodName) "ChordGrammars") ∈ wN := kN (i := 171) (by decide +kernel) rfl
theorem k_172 : (Jvm.Cond.classLink "ChordGrammars$Chart" (18 : Nat) "ChordGrammars$Symbols") ∈ wA := kA (i := 172) (by decide +kernel) rfl
theorem k_173 : (Jvm.Cond.instantiable "ChordGrammars$Symbols" (2 : Nat)) ∈ wA := kA (i := 173) (by decide +kernel) rfl
theorem kn_174 : (Jvm.Cond.methodLinkNest "ChordGrammars$Chart" (20 : Nat) ({ cls := "ChordGrammars$Symbols", name := "<init>", desc := "()V" } : Jvm.MethodName) "ChordGrammars") ∈ wN := kN (i := 174) (by decide +kernel) rfl
theorem k_175 : (Jvm.Cond.instanceMethod ({ cls := "ChordGrammars$Symbols", name := "<init>", desc := "()V" } : Jvm.MethodName)) ∈ wA := kA (i := 175) (by decide +kernel) rfl
theorem k_176 : (Jvm.Cond.code ({ cls := "ChordGrammars$Symbols", name := "<init>", desc := "()V" } : Jvm.MethodName) prog_8_method_1_code (1 : Nat) (Option.none : Option Jvm.ClassFile.FieldType)) ∈ wA := kA (i := 176) (by decide +kernel) rfl
theorem k_177 : (Jvm.Cond.methodLink "ChordGrammars$Symbols" (3 : Nat) ({ cls := "java/lang/Object", name := "<init>", desc := "()V" } : Jvm.MethodName)) ∈ wA := kA (i := 177) (by decide +kernel) rfl
theorem k_178 : (Jvm.Cond.fieldLink "ChordGrammars$Symbols" (9 : Nat) "ChordGrammars$Symbols" "chords" "[I") ∈ wA := kA (i := 178) (by decide +kernel) rfl
theorem kn_179 : (Jvm.Cond.fieldLinkNest "ChordGrammars$Chart" (141 : Nat) "ChordGrammars$Symbols" "chords" "[I" "ChordGrammars") ∈ wN := kN (i := 179) (by decide +kernel) rfl
theorem k_180 : (Jvm.Cond.fieldLink "ChordGrammars$Symbols" (15 : Nat) "ChordGrammars$Symbols" "prices" "[I") ∈ wA := kA (i := 180) (by decide +kernel) rfl
theorem kn_181 : (Jvm.Cond.fieldLinkNest "ChordGrammars$Chart" (138 : Nat) "ChordGrammars$Symbols" "prices" "[I" "ChordGrammars") ∈ wN := kN (i := 181) (by decide +kernel) rfl
theorem k_187 : (Jvm.Cond.constant "ChordGrammars$Chart" (36 : Nat) (234000 : Int32)) ∈ wA := kA (i := 187) (by decide +kernel) rfl
theorem k_188 : (Jvm.Cond.fieldLink "ChordGrammars$Chart" (12 : Nat) "ChordGrammars$Chart" "grammar" "LChordGrammars$Grammar;") ∈ wA := kA (i := 188) (by decide +kernel) rfl
theorem kn_189 : (Jvm.Cond.fieldLinkNest "ChordGrammars$Tree" (52 : Nat) "ChordGrammars$Chart" "grammar" "LChordGrammars$Grammar;" "ChordGrammars") ∈ wN := kN (i := 189) (by decide +kernel) rfl
theorem k_190 : (Jvm.Cond.fieldLink "ChordGrammars$Chart" (21 : Nat) "ChordGrammars$Chart" "symbols" "LChordGrammars$Symbols;") ∈ wA := kA (i := 190) (by decide +kernel) rfl
theorem k_191 : (Jvm.Cond.fieldLink "ChordGrammars$Chart" (25 : Nat) "ChordGrammars$Chart" "pitches" "[I") ∈ wA := kA (i := 191) (by decide +kernel) rfl
theorem k_192 : (Jvm.Cond.fieldLink "ChordGrammars$Chart" (29 : Nat) "ChordGrammars$Chart" "counts" "[J") ∈ wA := kA (i := 192) (by decide +kernel) rfl
theorem k_193 : (Jvm.Cond.fieldLink "ChordGrammars$Chart" (33 : Nat) "ChordGrammars$Chart" "sizes" "[I") ∈ wA := kA (i := 193) (by decide +kernel) rfl
theorem k_194 : (Jvm.Cond.fieldLink "ChordGrammars$Chart" (37 : Nat) "ChordGrammars$Chart" "least" "[J") ∈ wA := kA (i := 194) (by decide +kernel) rfl
theorem k_195 : (Jvm.Cond.fieldLink "ChordGrammars$Chart" (40 : Nat) "ChordGrammars$Chart" "slots" "I") ∈ wA := kA (i := 195) (by decide +kernel) rfl
theorem kn_196 : (Jvm.Cond.fieldLinkNest "ChordGrammars$Tree" (63 : Nat) "ChordGrammars$Chart" "slots" "I" "ChordGrammars") ∈ wN := kN (i := 196) (by decide +kernel) rfl
theorem kn_197 : (Jvm.Cond.fieldLinkNest "ChordGrammars" (164 : Nat) "ChordGrammars$Chart" "slots" "I" "ChordGrammars") ∈ wN := kN (i := 197) (by decide +kernel) rfl
theorem k_213 : (Jvm.Cond.arrayClass Jvm.ClassFile.FieldType.long) ∈ wA := kA (i := 213) (by decide +kernel) rfl
theorem k_214 : (Jvm.Cond.classLink "ChordGrammars" (58 : Nat) "ChordGrammars$Tree") ∈ wA := kA (i := 214) (by decide +kernel) rfl
theorem k_215 : (Jvm.Cond.instantiable "ChordGrammars$Tree" (13 : Nat)) ∈ wA := kA (i := 215) (by decide +kernel) rfl
theorem kn_216 : (Jvm.Cond.methodLinkNest "ChordGrammars" (60 : Nat) ({ cls := "ChordGrammars$Tree", name := "<init>", desc := "()V" } : Jvm.MethodName) "ChordGrammars") ∈ wN := kN (i := 216) (by decide +kernel) rfl
theorem k_217 : (Jvm.Cond.instanceMethod ({ cls := "ChordGrammars$Tree", name := "<init>", desc := "()V" } : Jvm.MethodName)) ∈ wA := kA (i := 217) (by decide +kernel) rfl
theorem k_218 : (Jvm.Cond.code ({ cls := "ChordGrammars$Tree", name := "<init>", desc := "()V" } : Jvm.MethodName) prog_10_method_1_code (1 : Nat) (Option.none : Option Jvm.ClassFile.FieldType)) ∈ wA := kA (i := 218) (by decide +kernel) rfl
theorem k_219 : (Jvm.Cond.methodLink "ChordGrammars$Tree" (3 : Nat) ({ cls := "java/lang/Object", name := "<init>", desc := "()V" } : Jvm.MethodName)) ∈ wA := kA (i := 219) (by decide +kernel) rfl
theorem k_220 : (Jvm.Cond.fieldLink "ChordGrammars$Tree" (9 : Nat) "ChordGrammars$Tree" "reading" "I") ∈ wA := kA (i := 220) (by decide +kernel) rfl
theorem kn_221 : (Jvm.Cond.fieldLinkNest "ChordGrammars" (124 : Nat) "ChordGrammars$Tree" "reading" "I" "ChordGrammars") ∈ wN := kN (i := 221) (by decide +kernel) rfl
theorem k_222 : (Jvm.Cond.fieldLink "ChordGrammars$Tree" (15 : Nat) "ChordGrammars$Tree" "count" "I") ∈ wA := kA (i := 222) (by decide +kernel) rfl
theorem kn_223 : (Jvm.Cond.fieldLinkNest "ChordGrammars" (146 : Nat) "ChordGrammars$Tree" "count" "I" "ChordGrammars") ∈ wN := kN (i := 223) (by decide +kernel) rfl
theorem k_224 : (Jvm.Cond.fieldLink "ChordGrammars$Tree" (18 : Nat) "ChordGrammars$Tree" "rules" "[I") ∈ wA := kA (i := 224) (by decide +kernel) rfl
theorem kn_225 : (Jvm.Cond.fieldLinkNest "ChordGrammars" (147 : Nat) "ChordGrammars$Tree" "rules" "[I" "ChordGrammars") ∈ wN := kN (i := 225) (by decide +kernel) rfl
theorem k_226 : (Jvm.Cond.fieldLink "ChordGrammars$Tree" (22 : Nat) "ChordGrammars$Tree" "firsts" "[I") ∈ wA := kA (i := 226) (by decide +kernel) rfl
theorem kn_227 : (Jvm.Cond.fieldLinkNest "ChordGrammars" (149 : Nat) "ChordGrammars$Tree" "firsts" "[I" "ChordGrammars") ∈ wN := kN (i := 227) (by decide +kernel) rfl
theorem k_228 : (Jvm.Cond.fieldLink "ChordGrammars$Tree" (25 : Nat) "ChordGrammars$Tree" "lasts" "[I") ∈ wA := kA (i := 228) (by decide +kernel) rfl
theorem kn_229 : (Jvm.Cond.fieldLinkNest "ChordGrammars" (152 : Nat) "ChordGrammars$Tree" "lasts" "[I" "ChordGrammars") ∈ wN := kN (i := 229) (by decide +kernel) rfl
theorem k_230 : (Jvm.Cond.fieldLink "ChordGrammars$Tree" (28 : Nat) "ChordGrammars$Tree" "chords" "[I") ∈ wA := kA (i := 230) (by decide +kernel) rfl
theorem kn_231 : (Jvm.Cond.fieldLinkNest "ChordGrammars" (155 : Nat) "ChordGrammars$Tree" "chords" "[I" "ChordGrammars") ∈ wN := kN (i := 231) (by decide +kernel) rfl
theorem k_232 : (Jvm.Cond.fieldLink "ChordGrammars$Tree" (31 : Nat) "ChordGrammars$Tree" "slotChords" "[I") ∈ wA := kA (i := 232) (by decide +kernel) rfl
theorem kn_233 : (Jvm.Cond.fieldLinkNest "ChordGrammars" (161 : Nat) "ChordGrammars$Tree" "slotChords" "[I" "ChordGrammars") ∈ wN := kN (i := 233) (by decide +kernel) rfl
theorem k_234 : (Jvm.Cond.fieldLink "ChordGrammars$Tree" (34 : Nat) "ChordGrammars$Tree" "slotDegrees" "[I") ∈ wA := kA (i := 234) (by decide +kernel) rfl
theorem k_235 : (Jvm.Cond.fieldLink "ChordGrammars$Tree" (37 : Nat) "ChordGrammars$Tree" "waitingItems" "[I") ∈ wA := kA (i := 235) (by decide +kernel) rfl
theorem k_236 : (Jvm.Cond.fieldLink "ChordGrammars$Tree" (40 : Nat) "ChordGrammars$Tree" "waitingFirsts" "[I") ∈ wA := kA (i := 236) (by decide +kernel) rfl
theorem k_237 : (Jvm.Cond.fieldLink "ChordGrammars$Tree" (43 : Nat) "ChordGrammars$Tree" "waitingLasts" "[I") ∈ wA := kA (i := 237) (by decide +kernel) rfl
theorem k_238 : (Jvm.Cond.fieldLink "ChordGrammars$Tree" (46 : Nat) "ChordGrammars$Tree" "waitingRanks" "[I") ∈ wA := kA (i := 238) (by decide +kernel) rfl
theorem k_239 : (Jvm.Cond.fieldLink "ChordGrammars$Tree" (49 : Nat) "ChordGrammars$Tree" "waiting" "I") ∈ wA := kA (i := 239) (by decide +kernel) rfl
theorem k_267 : (Jvm.Cond.fieldLink "ChordGrammars" (12 : Nat) "ChordGrammars" "key" "LChordGrammars$Key;") ∈ wA := kA (i := 267) (by decide +kernel) rfl
theorem k_268 : (Jvm.Cond.fieldLink "ChordGrammars" (19 : Nat) "ChordGrammars" "tariff" "LChordGrammars$Tariff;") ∈ wA := kA (i := 268) (by decide +kernel) rfl
theorem k_269 : (Jvm.Cond.fieldLink "ChordGrammars" (26 : Nat) "ChordGrammars" "slots" "LChordGrammars$Slots;") ∈ wA := kA (i := 269) (by decide +kernel) rfl
theorem k_270 : (Jvm.Cond.fieldLink "ChordGrammars" (33 : Nat) "ChordGrammars" "draft" "LChordGrammars$Draft;") ∈ wA := kA (i := 270) (by decide +kernel) rfl
theorem k_271 : (Jvm.Cond.fieldLink "ChordGrammars" (40 : Nat) "ChordGrammars" "grammar" "LChordGrammars$Grammar;") ∈ wA := kA (i := 271) (by decide +kernel) rfl
theorem k_272 : (Jvm.Cond.fieldLink "ChordGrammars" (47 : Nat) "ChordGrammars" "reader" "LChordGrammars$Reader;") ∈ wA := kA (i := 272) (by decide +kernel) rfl
theorem k_273 : (Jvm.Cond.fieldLink "ChordGrammars" (54 : Nat) "ChordGrammars" "chart" "LChordGrammars$Chart;") ∈ wA := kA (i := 273) (by decide +kernel) rfl
theorem k_274 : (Jvm.Cond.fieldLink "ChordGrammars" (61 : Nat) "ChordGrammars" "tree" "LChordGrammars$Tree;") ∈ wA := kA (i := 274) (by decide +kernel) rfl
theorem k_292 : (Jvm.Cond.methodLink "ChordGrammarsLaw" (19 : Nat) ({ cls := "ChordGrammars", name := "key", desc := "(IZ)Z" } : Jvm.MethodName)) ∈ wA := kA (i := 292) (by decide +kernel) rfl
theorem k_293 : (Jvm.Cond.instanceMethod ({ cls := "ChordGrammars", name := "key", desc := "(IZ)Z" } : Jvm.MethodName)) ∈ wA := kA (i := 293) (by decide +kernel) rfl
theorem k_294 : (Jvm.Cond.selects "ChordGrammars" ({ cls := "ChordGrammars", name := "key", desc := "(IZ)Z" } : Jvm.MethodName) ({ cls := "ChordGrammars", name := "key", desc := "(IZ)Z" } : Jvm.MethodName)) ∈ wA := kA (i := 294) (by decide +kernel) rfl
theorem k_295 : (Jvm.Cond.code ({ cls := "ChordGrammars", name := "key", desc := "(IZ)Z" } : Jvm.MethodName) prog_1_method_2_code (3 : Nat) (Option.some Jvm.ClassFile.FieldType.boolean)) ∈ wA := kA (i := 295) (by decide +kernel) rfl
theorem kn_296 : (Jvm.Cond.methodLinkNest "ChordGrammars" (65 : Nat) ({ cls := "ChordGrammars$Key", name := "change", desc := "(IZ)Z" } : Jvm.MethodName) "ChordGrammars") ∈ wN := kN (i := 296) (by decide +kernel) rfl
theorem k_298 : (Jvm.Cond.instanceMethod ({ cls := "ChordGrammars$Key", name := "change", desc := "(IZ)Z" } : Jvm.MethodName)) ∈ wA := kA (i := 298) (by decide +kernel) rfl
theorem k_299 : (Jvm.Cond.code ({ cls := "ChordGrammars$Key", name := "change", desc := "(IZ)Z" } : Jvm.MethodName) prog_5_method_2_code (3 : Nat) (Option.some Jvm.ClassFile.FieldType.boolean)) ∈ wA := kA (i := 299) (by decide +kernel) rfl
theorem k_300 : (Jvm.Cond.methodLink "ChordGrammarsLaw" (24 : Nat) ({ cls := "ChordGrammars", name := "cost", desc := "(II)Z" } : Jvm.MethodName)) ∈ wA := kA (i := 300) (by decide +kernel) rfl
theorem k_301 : (Jvm.Cond.instanceMethod ({ cls := "ChordGrammars", name := "cost", desc := "(II)Z" } : Jvm.MethodName)) ∈ wA := kA (i := 301) (by decide +kernel) rfl
theorem k_302 : (Jvm.Cond.selects "ChordGrammars" ({ cls := "ChordGrammars", name := "cost", desc := "(II)Z" } : Jvm.MethodName) ({ cls := "ChordGrammars", name := "cost", desc := "(II)Z" } : Jvm.MethodName)) ∈ wA := kA (i := 302) (by decide +kernel) rfl
theorem k_303 : (Jvm.Cond.code ({ cls := "ChordGrammars", name := "cost", desc := "(II)Z" } : Jvm.MethodName) prog_1_method_3_code (3 : Nat) (Option.some Jvm.ClassFile.FieldType.boolean)) ∈ wA := kA (i := 303) (by decide +kernel) rfl
theorem kn_304 : (Jvm.Cond.methodLinkNest "ChordGrammars" (69 : Nat) ({ cls := "ChordGrammars$Tariff", name := "change", desc := "(II)Z" } : Jvm.MethodName) "ChordGrammars") ∈ wN := kN (i := 304) (by decide +kernel) rfl
theorem k_306 : (Jvm.Cond.instanceMethod ({ cls := "ChordGrammars$Tariff", name := "change", desc := "(II)Z" } : Jvm.MethodName)) ∈ wA := kA (i := 306) (by decide +kernel) rfl
theorem k_307 : (Jvm.Cond.code ({ cls := "ChordGrammars$Tariff", name := "change", desc := "(II)Z" } : Jvm.MethodName) prog_9_method_2_code (3 : Nat) (Option.some Jvm.ClassFile.FieldType.boolean)) ∈ wA := kA (i := 307) (by decide +kernel) rfl
theorem k_308 : (Jvm.Cond.methodLink "ChordGrammarsLaw" (31 : Nat) ({ cls := "ChordGrammars", name := "draft", desc := "(IJ)I" } : Jvm.MethodName)) ∈ wA := kA (i := 308) (by decide +kernel) rfl
theorem k_309 : (Jvm.Cond.instanceMethod ({ cls := "ChordGrammars", name := "draft", desc := "(IJ)I" } : Jvm.MethodName)) ∈ wA := kA (i := 309) (by decide +kernel) rfl
theorem k_310 : (Jvm.Cond.selects "ChordGrammars" ({ cls := "ChordGrammars", name := "draft", desc := "(IJ)I" } : Jvm.MethodName) ({ cls := "ChordGrammars", name := "draft", desc := "(IJ)I" } : Jvm.MethodName)) ∈ wA := kA (i := 310) (by decide +kernel) rfl
theorem k_311 : (Jvm.Cond.code ({ cls := "ChordGrammars", name := "draft", desc := "(IJ)I" } : Jvm.MethodName) prog_1_method_4_code (4 : Nat) (Option.some Jvm.ClassFile.FieldType.int)) ∈ wA := kA (i := 311) (by decide +kernel) rfl
theorem kn_312 : (Jvm.Cond.methodLinkNest "ChordGrammars" (72 : Nat) ({ cls := "ChordGrammars$Draft", name := "extend", desc := "(IJ)I" } : Jvm.MethodName) "ChordGrammars") ∈ wN := kN (i := 312) (by decide +kernel) rfl
theorem k_314 : (Jvm.Cond.instanceMethod ({ cls := "ChordGrammars$Draft", name := "extend", desc := "(IJ)I" } : Jvm.MethodName)) ∈ wA := kA (i := 314) (by decide +kernel) rfl
theorem k_315 : (Jvm.Cond.code ({ cls := "ChordGrammars$Draft", name := "extend", desc := "(IJ)I" } : Jvm.MethodName) prog_3_method_2_code (5 : Nat) (Option.some Jvm.ClassFile.FieldType.int)) ∈ wA := kA (i := 315) (by decide +kernel) rfl
theorem k_316 : (Jvm.Cond.methodLink "ChordGrammarsLaw" (36 : Nat) ({ cls := "ChordGrammars", name := "grammar", desc := "()I" } : Jvm.MethodName)) ∈ wA := kA (i := 316) (by decide +kernel) rfl
theorem k_317 : (Jvm.Cond.instanceMethod ({ cls := "ChordGrammars", name := "grammar", desc := "()I" } : Jvm.MethodName)) ∈ wA := kA (i := 317) (by decide +kernel) rfl
theorem k_318 : (Jvm.Cond.selects "ChordGrammars" ({ cls := "ChordGrammars", name := "grammar", desc := "()I" } : Jvm.MethodName) ({ cls := "ChordGrammars", name := "grammar", desc := "()I" } : Jvm.MethodName)) ∈ wA := kA (i := 318) (by decide +kernel) rfl
theorem k_319 : (Jvm.Cond.code ({ cls := "ChordGrammars", name := "grammar", desc := "()I" } : Jvm.MethodName) prog_1_method_5_code (2 : Nat) (Option.some Jvm.ClassFile.FieldType.int)) ∈ wA := kA (i := 319) (by decide +kernel) rfl
theorem kn_320 : (Jvm.Cond.methodLinkNest "ChordGrammars" (76 : Nat) ({ cls := "ChordGrammars$Reader", name := "readAll", desc := "(LChordGrammars$Draft;)I" } : Jvm.MethodName) "ChordGrammars") ∈ wN := kN (i := 320) (by decide +kernel) rfl
theorem k_322 : (Jvm.Cond.instanceMethod ({ cls := "ChordGrammars$Reader", name := "readAll", desc := "(LChordGrammars$Draft;)I" } : Jvm.MethodName)) ∈ wA := kA (i := 322) (by decide +kernel) rfl
theorem k_323 : (Jvm.Cond.code ({ cls := "ChordGrammars$Reader", name := "readAll", desc := "(LChordGrammars$Draft;)I" } : Jvm.MethodName) prog_6_method_2_code (3 : Nat) (Option.some Jvm.ClassFile.FieldType.int)) ∈ wA := kA (i := 323) (by decide +kernel) rfl
theorem k_324 : (Jvm.Cond.methodLink "ChordGrammars$Reader" (32 : Nat) ({ cls := "ChordGrammars$Reader", name := "nextOctet", desc := "(LChordGrammars$Draft;)I" } : Jvm.MethodName)) ∈ wA := kA (i := 324) (by decide +kernel) rfl
theorem k_326 : (Jvm.Cond.instanceMethod ({ cls := "ChordGrammars$Reader", name := "nextOctet", desc := "(LChordGrammars$Draft;)I" } : Jvm.MethodName)) ∈ wA := kA (i := 326) (by decide +kernel) rfl
theorem k_327 : (Jvm.Cond.code ({ cls := "ChordGrammars$Reader", name := "nextOctet", desc := "(LChordGrammars$Draft;)I" } : Jvm.MethodName) prog_6_method_7_code (2 : Nat) (Option.some Jvm.ClassFile.FieldType.int)) ∈ wA := kA (i := 327) (by decide +kernel) rfl
theorem kn_328 : (Jvm.Cond.methodLinkNest "ChordGrammars$Reader" (76 : Nat) ({ cls := "ChordGrammars$Draft", name := "octetAt", desc := "(I)I" } : Jvm.MethodName) "ChordGrammars") ∈ wN := kN (i := 328) (by decide +kernel) rfl
theorem k_330 : (Jvm.Cond.instanceMethod ({ cls := "ChordGrammars$Draft", name := "octetAt", desc := "(I)I" } : Jvm.MethodName)) ∈ wA := kA (i := 330) (by decide +kernel) rfl
theorem k_331 : (Jvm.Cond.code ({ cls := "ChordGrammars$Draft", name := "octetAt", desc := "(I)I" } : Jvm.MethodName) prog_3_method_3_code (2 : Nat) (Option.some Jvm.ClassFile.FieldType.int)) ∈ wA := kA (i := 331) (by decide +kernel) rfl
theorem k_332 : (Jvm.Cond.methodLink "ChordGrammars$Reader" (36 : Nat) ({ cls := "ChordGrammars$Reader", name := "readRule", desc := "(LChordGrammars$Draft;)Z" } : Jvm.MethodName)) ∈ wA := kA (i := 332) (by decide +kernel) rfl
theorem k_334 : (Jvm.Cond.instanceMethod ({ cls := "ChordGrammars$Reader", name := "readRule", desc := "(LChordGrammars$Draft;)Z" } : Jvm.MethodName)) ∈ wA := kA (i := 334) (by decide +kernel) rfl
theorem k_335 : (Jvm.Cond.code ({ cls := "ChordGrammars$Reader", name := "readRule", desc := "(LChordGrammars$Draft;)Z" } : Jvm.MethodName) prog_6_method_3_code (8 : Nat) (Option.some Jvm.ClassFile.FieldType.boolean)) ∈ wA := kA (i := 335) (by decide +kernel) rfl
theorem k_336 : (Jvm.Cond.methodLink "ChordGrammars$Reader" (50 : Nat) ({ cls := "ChordGrammars$Reader", name := "isName", desc := "(I)Z" } : Jvm.MethodName)) ∈ wA := kA (i := 336) (by decide +kernel) rfl
theorem k_337 : (Jvm.Cond.static ({ cls := "ChordGrammars$Reader", name := "isName", desc := "(I)Z" } : Jvm.MethodName)) ∈ wA := kA (i := 337) (by decide +kernel) rfl
theorem k_338 : (Jvm.Cond.code ({ cls := "ChordGrammars$Reader", name := "isName", desc := "(I)Z" } : Jvm.MethodName) prog_6_method_8_code (1 : Nat) (Option.some Jvm.ClassFile.FieldType.boolean)) ∈ wA := kA (i := 338) (by decide +kernel) rfl
theorem k_339 : (Jvm.Cond.methodLink "ChordGrammars$Reader" (54 : Nat) ({ cls := "ChordGrammars$Reader", name := "takes", desc := "(LChordGrammars$Draft;I)Z" } : Jvm.MethodName)) ∈ wA := kA (i := 339) (by decide +kernel) rfl
theorem k_341 : (Jvm.Cond.instanceMethod ({ cls := "ChordGrammars$Reader", name := "takes", desc := "(LChordGrammars$Draft;I)Z" } : Jvm.MethodName)) ∈ wA := kA (i := 341) (by decide +kernel) rfl
theorem k_342 : (Jvm.Cond.code ({ cls := "ChordGrammars$Reader", name := "takes", desc := "(LChordGrammars$Draft;I)Z" } : Jvm.MethodName) prog_6_method_6_code (4 : Nat) (Option.some Jvm.ClassFile.FieldType.boolean)) ∈ wA := kA (i := 342) (by decide +kernel) rfl
theorem k_343 : (Jvm.Cond.methodLink "ChordGrammars$Reader" (58 : Nat) ({ cls := "ChordGrammars$Reader", name := "readItem", desc := "(LChordGrammars$Draft;)I" } : Jvm.MethodName)) ∈ wA := kA (i := 343) (by decide +kernel) rfl
theorem k_345 : (Jvm.Cond.instanceMethod ({ cls := "ChordGrammars$Reader", name := "readItem", desc := "(LChordGrammars$Draft;)I" } : Jvm.MethodName)) ∈ wA := kA (i := 345) (by decide +kernel) rfl
theorem k_346 : (Jvm.Cond.code ({ cls := "ChordGrammars$Reader", name := "readItem", desc := "(LChordGrammars$Draft;)I" } : Jvm.MethodName) prog_6_method_4_code (4 : Nat) (Option.some Jvm.ClassFile.FieldType.int)) ∈ wA := kA (i := 346) (by decide +kernel) rfl
theorem k_347 : (Jvm.Cond.methodLink "ChordGrammars$Reader" (82 : Nat) ({ cls := "ChordGrammars$Reader", name := "kindOf", desc := "(I)I" } : Jvm.MethodName)) ∈ wA := kA (i := 347) (by decide +kernel) rfl
theorem k_348 : (Jvm.Cond.static ({ cls := "ChordGrammars$Reader", name := "kindOf", desc := "(I)I" } : Jvm.MethodName)) ∈ wA := kA (i := 348) (by decide +kernel) rfl
theorem k_349 : (Jvm.Cond.code ({ cls := "ChordGrammars$Reader", name := "kindOf", desc := "(I)I" } : Jvm.MethodName) prog_6_method_10_code (1 : Nat) (Option.some Jvm.ClassFile.FieldType.int)) ∈ wA := kA (i := 349) (by decide +kernel) rfl
theorem k_351 : (Jvm.Cond.methodLink "ChordGrammars$Reader" (93 : Nat) ({ cls := "java/lang/String", name := "indexOf", desc := "(I)I" } : Jvm.MethodName)) ∈ wA := kA (i := 351) (by decide +kernel) rfl
theorem k_352 : (Jvm.Cond.instanceMethod ({ cls := "java/lang/String", name := "indexOf", desc := "(I)I" } : Jvm.MethodName)) ∈ wA := kA (i := 352) (by decide +kernel) rfl
theorem k_353 : (Jvm.Cond.selects "java/lang/String" ({ cls := "java/lang/String", name := "indexOf", desc := "(I)I" } : Jvm.MethodName) ({ cls := "java/lang/String", name := "indexOf", desc := "(I)I" } : Jvm.MethodName)) ∈ wA := kA (i := 353) (by decide +kernel) rfl
theorem k_354 : (Jvm.Cond.code ({ cls := "java/lang/String", name := "indexOf", desc := "(I)I" } : Jvm.MethodName) prog_20_method_79_code (2 : Nat) (Option.some Jvm.ClassFile.FieldType.int)) ∈ wA := kA (i := 354) (by decide +kernel) rfl
theorem k_355 : (Jvm.Cond.methodLink "java/lang/String" (633 : Nat) ({ cls := "java/lang/String", name := "indexOf", desc := "(II)I" } : Jvm.MethodName)) ∈ wA := kA (i := 355) (by decide +kernel) rfl
theorem k_356 : (Jvm.Cond.instanceMethod ({ cls := "java/lang/String", name := "indexOf", desc := "(II)I" } : Jvm.MethodName)) ∈ wA := kA (i := 356) (by decide +kernel) rfl
theorem k_357 : (Jvm.Cond.selects "java/lang/String" ({ cls := "java/lang/String", name := "indexOf", desc := "(II)I" } : Jvm.MethodName) ({ cls := "java/lang/String", name := "indexOf", desc := "(II)I" } : Jvm.MethodName)) ∈ wA := kA (i := 357) (by decide +kernel) rfl
theorem k_358 : (Jvm.Cond.code ({ cls := "java/lang/String", name := "indexOf", desc := "(II)I" } : Jvm.MethodName) prog_20_method_80_code (3 : Nat) (Option.some Jvm.ClassFile.FieldType.int)) ∈ wA := kA (i := 358) (by decide +kernel) rfl
theorem k_359 : (Jvm.Cond.methodLink "java/lang/String" (492 : Nat) ({ cls := "java/lang/String", name := "isLatin1", desc := "()Z" } : Jvm.MethodName)) ∈ wA := kA (i := 359) (by decide +kernel) rfl
theorem k_360 : (Jvm.Cond.instanceMethod ({ cls := "java/lang/String", name := "isLatin1", desc := "()Z" } : Jvm.MethodName)) ∈ wA := kA (i := 360) (by decide +kernel) rfl
theorem k_361 : (Jvm.Cond.selects "java/lang/String" ({ cls := "java/lang/String", name := "isLatin1", desc := "()Z" } : Jvm.MethodName) ({ cls := "java/lang/String", name := "isLatin1", desc := "()Z" } : Jvm.MethodName)) ∈ wA := kA (i := 361) (by decide +kernel) rfl
theorem k_362 : (Jvm.Cond.code ({ cls := "java/lang/String", name := "isLatin1", desc := "()Z" } : Jvm.MethodName) prog_20_method_154_code (1 : Nat) (Option.some Jvm.ClassFile.FieldType.boolean)) ∈ wA := kA (i := 362) (by decide +kernel) rfl
theorem k_363 : (Jvm.Cond.fieldLink "java/lang/String" (38 : Nat) "java/lang/String" "COMPACT_STRINGS" "Z") ∈ wA := kA (i := 363) (by decide +kernel) rfl
theorem k_365 : (Jvm.Cond.methodLink "java/lang/String" (505 : Nat) ({ cls := "java/lang/String", name := "length", desc := "()I" } : Jvm.MethodName)) ∈ wA := kA (i := 365) (by decide +kernel) rfl
theorem k_366 : (Jvm.Cond.instanceMethod ({ cls := "java/lang/String", name := "length", desc := "()I" } : Jvm.MethodName)) ∈ wA := kA (i := 366) (by decide +kernel) rfl
theorem k_367 : (Jvm.Cond.selects "java/lang/String" ({ cls := "java/lang/String", name := "length", desc := "()I" } : Jvm.MethodName) ({ cls := "java/lang/String", name := "length", desc := "()I" } : Jvm.MethodName)) ∈ wA := kA (i := 367) (by decide +kernel) rfl
theorem k_368 : (Jvm.Cond.code ({ cls := "java/lang/String", name := "length", desc := "()I" } : Jvm.MethodName) prog_20_method_54_code (1 : Nat) (Option.some Jvm.ClassFile.FieldType.int)) ∈ wA := kA (i := 368) (by decide +kernel) rfl
theorem k_369 : (Jvm.Cond.methodLink "java/lang/String" (335 : Nat) ({ cls := "java/lang/String", name := "coder", desc := "()B" } : Jvm.MethodName)) ∈ wA := kA (i := 369) (by decide +kernel) rfl
theorem k_370 : (Jvm.Cond.instanceMethod ({ cls := "java/lang/String", name := "coder", desc := "()B" } : Jvm.MethodName)) ∈ wA := kA (i := 370) (by decide +kernel) rfl
theorem k_371 : (Jvm.Cond.selects "java/lang/String" ({ cls := "java/lang/String", name := "coder", desc := "()B" } : Jvm.MethodName) ({ cls := "java/lang/String", name := "coder", desc := "()B" } : Jvm.MethodName)) ∈ wA := kA (i := 371) (by decide +kernel) rfl
theorem k_372 : (Jvm.Cond.code ({ cls := "java/lang/String", name := "coder", desc := "()B" } : Jvm.MethodName) prog_20_method_152_code (1 : Nat) (Option.some Jvm.ClassFile.FieldType.byte)) ∈ wA := kA (i := 372) (by decide +kernel) rfl
theorem k_373 : (Jvm.Cond.methodLink "java/lang/String" (637 : Nat) ({ cls := "java/lang/StringLatin1", name := "indexOf", desc := "([BIII)I" } : Jvm.MethodName)) ∈ wA := kA (i := 373) (by decide +kernel) rfl
theorem k_374 : (Jvm.Cond.static ({ cls := "java/lang/StringLatin1", name := "indexOf", desc := "([BIII)I" } : Jvm.MethodName)) ∈ wA := kA (i := 374) (by decide +kernel) rfl
theorem k_375 : (Jvm.Cond.code ({ cls := "java/lang/StringLatin1", name := "indexOf", desc := "([BIII)I" } : Jvm.MethodName) prog_21_method_22_code (4 : Nat) (Option.some Jvm.ClassFile.FieldType.int)) ∈ wA := kA (i := 375) (by decide +kernel) rfl
theorem k_376 : (Jvm.Cond.methodLink "java/lang/StringLatin1" (88 : Nat) ({ cls := "java/lang/StringLatin1", name := "canEncode", desc := "(I)Z" } : Jvm.MethodName)) ∈ wA := kA (i := 376) (by decide +kernel) rfl
theorem k_377 : (Jvm.Cond.static ({ cls := "java/lang/StringLatin1", name := "canEncode", desc := "(I)Z" } : Jvm.MethodName)) ∈ wA := kA (i := 377) (by decide +kernel) rfl
theorem k_378 : (Jvm.Cond.code ({ cls := "java/lang/StringLatin1", name := "canEncode", desc := "(I)Z" } : Jvm.MethodName) prog_21_method_4_code (1 : Nat) (Option.some Jvm.ClassFile.FieldType.boolean)) ∈ wA := kA (i := 378) (by decide +kernel) rfl
theorem k_379 : (Jvm.Cond.methodLink "java/lang/StringLatin1" (92 : Nat) ({ cls := "java/lang/Math", name := "max", desc := "(II)I" } : Jvm.MethodName)) ∈ wA := kA (i := 379) (by decide +kernel) rfl
theorem k_380 : (Jvm.Cond.static ({ cls := "java/lang/Math", name := "max", desc := "(II)I" } : Jvm.MethodName)) ∈ wA := kA (i := 380) (by decide +kernel) rfl
theorem k_381 : (Jvm.Cond.code ({ cls := "java/lang/Math", name := "max", desc := "(II)I" } : Jvm.MethodName) prog_18_method_65_code (2 : Nat) (Option.some Jvm.ClassFile.FieldType.int)) ∈ wA := kA (i := 381) (by decide +kernel) rfl
theorem k_382 : (Jvm.Cond.methodLink "java/lang/StringLatin1" (38 : Nat) ({ cls := "java/lang/Math", name := "min", desc := "(II)I" } : Jvm.MethodName)) ∈ wA := kA (i := 382) (by decide +kernel) rfl
theorem k_383 : (Jvm.Cond.static ({ cls := "java/lang/Math", name := "min", desc := "(II)I" } : Jvm.MethodName)) ∈ wA := kA (i := 383) (by decide +kernel) rfl
theorem k_384 : (Jvm.Cond.code ({ cls := "java/lang/Math", name := "min", desc := "(II)I" } : Jvm.MethodName) prog_18_method_69_code (2 : Nat) (Option.some Jvm.ClassFile.FieldType.int)) ∈ wA := kA (i := 384) (by decide +kernel) rfl
theorem k_385 : (Jvm.Cond.methodLink "java/lang/StringLatin1" (95 : Nat) ({ cls := "java/lang/StringLatin1", name := "indexOfChar", desc := "([BIII)I" } : Jvm.MethodName)) ∈ wA := kA (i := 385) (by decide +kernel) rfl
theorem k_386 : (Jvm.Cond.static ({ cls := "java/lang/StringLatin1", name := "indexOfChar", desc := "([BIII)I" } : Jvm.MethodName)) ∈ wA := kA (i := 386) (by decide +kernel) rfl
theorem k_387 : (Jvm.Cond.code ({ cls := "java/lang/StringLatin1", name := "indexOfChar", desc := "([BIII)I" } : Jvm.MethodName) prog_21_method_23_code (6 : Nat) (Option.some Jvm.ClassFile.FieldType.int)) ∈ wA := kA (i := 387) (by decide +kernel) rfl
theorem k_388 : (Jvm.Cond.methodLink "java/lang/String" (640 : Nat) ({ cls := "java/lang/StringUTF16", name := "indexOf", desc := "([BIII)I" } : Jvm.MethodName)) ∈ wA := kA (i := 388) (by decide +kernel) rfl
theorem k_389 : (Jvm.Cond.static ({ cls := "java/lang/StringUTF16", name := "indexOf", desc := "([BIII)I" } : Jvm.MethodName)) ∈ wA := kA (i := 389) (by decide +kernel) rfl
theorem k_390 : (Jvm.Cond.code ({ cls := "java/lang/StringUTF16", name := "indexOf", desc := "([BIII)I" } : Jvm.MethodName) prog_22_method_40_code (4 : Nat) (Option.some Jvm.ClassFile.FieldType.int)) ∈ wA := kA (i := 390) (by decide +kernel) rfl
theorem k_391 : (Jvm.Cond.methodLink "java/lang/StringUTF16" (224 : Nat) ({ cls := "java/lang/Math", name := "max", desc := "(II)I" } : Jvm.MethodName)) ∈ wA := kA (i := 391) (by decide +kernel) rfl
theorem k_392 : (Jvm.Cond.methodLink "java/lang/StringUTF16" (183 : Nat) ({ cls := "java/lang/Math", name := "min", desc := "(II)I" } : Jvm.MethodName)) ∈ wA := kA (i := 392) (by decide +kernel) rfl
theorem k_393 : (Jvm.Cond.constant "java/lang/StringUTF16" (227 : Nat) (65536 : Int32)) ∈ wA := kA (i := 393) (by decide +kernel) rfl
theorem k_394 : (Jvm.Cond.methodLink "java/lang/StringUTF16" (228 : Nat) ({ cls := "java/lang/StringUTF16", name := "indexOfChar", desc := "([BIII)I" } : Jvm.MethodName)) ∈ wA := kA (i := 394) (by decide +kernel) rfl
theorem k_395 : (Jvm.Cond.static ({ cls := "java/lang/StringUTF16", name := "indexOfChar", desc := "([BIII)I" } : Jvm.MethodName)) ∈ wA := kA (i := 395) (by decide +kernel) rfl
theorem k_396 : (Jvm.Cond.code ({ cls := "java/lang/StringUTF16", name := "indexOfChar", desc := "([BIII)I" } : Jvm.MethodName) prog_22_method_47_code (4 : Nat) (Option.some Jvm.ClassFile.FieldType.int)) ∈ wA := kA (i := 396) (by decide +kernel) rfl
theorem k_397 : (Jvm.Cond.methodLink "java/lang/StringUTF16" (96 : Nat) ({ cls := "java/lang/StringUTF16", name := "checkBoundsBeginEnd", desc := "(II[B)V" } : Jvm.MethodName)) ∈ wA := kA (i := 397) (by decide +kernel) rfl
theorem k_398 : (Jvm.Cond.static ({ cls := "java/lang/StringUTF16", name := "checkBoundsBeginEnd", desc := "(II[B)V" } : Jvm.MethodName)) ∈ wA := kA (i := 398) (by decide +kernel) rfl
theorem k_399 : (Jvm.Cond.code ({ cls := "java/lang/StringUTF16", name := "checkBoundsBeginEnd", desc := "(II[B)V" } : Jvm.MethodName) prog_22_method_93_code (3 : Nat) (Option.none : Option Jvm.ClassFile.FieldType)) ∈ wA := kA (i := 399) (by decide +kernel) rfl
theorem k_400 : (Jvm.Cond.methodLink "java/lang/StringUTF16" (48 : Nat) ({ cls := "java/lang/StringUTF16", name := "length", desc := "([B)I" } : Jvm.MethodName)) ∈ wA := kA (i := 400) (by decide +kernel) rfl
theorem k_401 : (Jvm.Cond.static ({ cls := "java/lang/StringUTF16", name := "length", desc := "([B)I" } : Jvm.MethodName)) ∈ wA := kA (i := 401) (by decide +kernel) rfl
theorem k_402 : (Jvm.Cond.code ({ cls := "java/lang/StringUTF16", name := "length", desc := "([B)I" } : Jvm.MethodName) prog_22_method_6_code (1 : Nat) (Option.some Jvm.ClassFile.FieldType.int)) ∈ wA := kA (i := 402) (by decide +kernel) rfl
theorem k_403 : (Jvm.Cond.methodLink "java/lang/StringUTF16" (241 : Nat) ({ cls := "java/lang/String", name := "checkBoundsBeginEnd", desc := "(III)V" } : Jvm.MethodName)) ∈ wA := kA (i := 403) (by decide +kernel) rfl
theorem k_404 : (Jvm.Cond.static ({ cls := "java/lang/String", name := "checkBoundsBeginEnd", desc := "(III)V" } : Jvm.MethodName)) ∈ wA := kA (i := 404) (by decide +kernel) rfl
theorem k_405 : (Jvm.Cond.code ({ cls := "java/lang/String", name := "checkBoundsBeginEnd", desc := "(III)V" } : Jvm.MethodName) prog_20_method_158_code (3 : Nat) (Option.none : Option Jvm.ClassFile.FieldType)) ∈ wA := kA (i := 405) (by decide +kernel) rfl
theorem k_406 : (Jvm.Cond.fieldLink "java/lang/String" (1053 : Nat) "jdk/internal/util/Preconditions" "SIOOBE_FORMATTER" "Ljava/util/function/BiFunction;") ∈ wA := kA (i := 406) (by decide +kernel) rfl
theorem k_408 : (Jvm.Cond.methodLink "java/lang/String" (1062 : Nat) ({ cls := "jdk/internal/util/Preconditions", name := "checkFromToIndex", desc := "(IIILjava/util/function/BiFunction;)I" } : Jvm.MethodName)) ∈ wA := kA (i := 408) (by decide +kernel) rfl
theorem k_409 : (Jvm.Cond.static ({ cls := "jdk/internal/util/Preconditions", name := "checkFromToIndex", desc := "(IIILjava/util/function/BiFunction;)I" } : Jvm.MethodName)) ∈ wA := kA (i := 409) (by decide +kernel) rfl
theorem k_410 : (Jvm.Cond.code ({ cls := "jdk/internal/util/Preconditions", name := "checkFromToIndex", desc := "(IIILjava/util/function/BiFunction;)I" } : Jvm.MethodName) prog_25_method_12_code (4 : Nat) (Option.some Jvm.ClassFile.FieldType.int)) ∈ wA := kA (i := 410) (by decide +kernel) rfl
theorem k_411 : (Jvm.Cond.methodLink "java/lang/StringUTF16" (244 : Nat) ({ cls := "java/lang/StringUTF16", name := "indexOfCharUnsafe", desc := "([BIII)I" } : Jvm.MethodName)) ∈ wA := kA (i := 411) (by decide +kernel) rfl
theorem k_412 : (Jvm.Cond.static ({ cls := "java/lang/StringUTF16", name := "indexOfCharUnsafe", desc := "([BIII)I" } : Jvm.MethodName)) ∈ wA := kA (i := 412) (by decide +kernel) rfl
theorem k_413 : (Jvm.Cond.code ({ cls := "java/lang/StringUTF16", name := "indexOfCharUnsafe", desc := "([BIII)I" } : Jvm.MethodName) prog_22_method_48_code (5 : Nat) (Option.some Jvm.ClassFile.FieldType.int)) ∈ wA := kA (i := 413) (by decide +kernel) rfl
theorem k_414 : (Jvm.Cond.methodLink "java/lang/StringUTF16" (71 : Nat) ({ cls := "java/lang/StringUTF16", name := "getChar", desc := "([BI)C" } : Jvm.MethodName)) ∈ wA := kA (i := 414) (by decide +kernel) rfl
theorem k_415 : (Jvm.Cond.static ({ cls := "java/lang/StringUTF16", name := "getChar", desc := "([BI)C" } : Jvm.MethodName)) ∈ wA := kA (i := 415) (by decide +kernel) rfl
theorem k_416 : (Jvm.Cond.code ({ cls := "java/lang/StringUTF16", name := "getChar", desc := "([BI)C" } : Jvm.MethodName) prog_22_method_5_code (2 : Nat) (Option.some Jvm.ClassFile.FieldType.char)) ∈ wA := kA (i := 416) (by decide +kernel) rfl
theorem k_417 : (Jvm.Cond.fieldLink "java/lang/StringUTF16" (44 : Nat) "java/lang/StringUTF16" "$assertionsDisabled" "Z") ∈ wA := kA (i := 417) (by decide +kernel) rfl
theorem k_419 : (Jvm.Cond.fieldLink "java/lang/StringUTF16" (59 : Nat) "java/lang/StringUTF16" "HI_BYTE_SHIFT" "I") ∈ wA := kA (i := 419) (by decide +kernel) rfl
theorem k_421 : (Jvm.Cond.fieldLink "java/lang/StringUTF16" (63 : Nat) "java/lang/StringUTF16" "LO_BYTE_SHIFT" "I") ∈ wA := kA (i := 421) (by decide +kernel) rfl
theorem k_423 : (Jvm.Cond.methodLink "java/lang/StringUTF16" (232 : Nat) ({ cls := "java/lang/StringUTF16", name := "indexOfSupplementary", desc := "([BIII)I" } : Jvm.MethodName)) ∈ wA := kA (i := 423) (by decide +kernel) rfl
theorem k_424 : (Jvm.Cond.static ({ cls := "java/lang/StringUTF16", name := "indexOfSupplementary", desc := "([BIII)I" } : Jvm.MethodName)) ∈ wA := kA (i := 424) (by decide +kernel) rfl
theorem k_425 : (Jvm.Cond.code ({ cls := "java/lang/StringUTF16", name := "indexOfSupplementary", desc := "([BIII)I" } : Jvm.MethodName) prog_22_method_49_code (7 : Nat) (Option.some Jvm.ClassFile.FieldType.int)) ∈ wA := kA (i := 425) (by decide +kernel) rfl
theorem k_426 : (Jvm.Cond.methodLink "java/lang/StringUTF16" (164 : Nat) ({ cls := "java/lang/Character", name := "isValidCodePoint", desc := "(I)Z" } : Jvm.MethodName)) ∈ wA := kA (i := 426) (by decide +kernel) rfl
theorem k_427 : (Jvm.Cond.static ({ cls := "java/lang/Character", name := "isValidCodePoint", desc := "(I)Z" } : Jvm.MethodName)) ∈ wA := kA (i := 427) (by decide +kernel) rfl
theorem k_428 : (Jvm.Cond.code ({ cls := "java/lang/Character", name := "isValidCodePoint", desc := "(I)Z" } : Jvm.MethodName) prog_14_method_11_code (2 : Nat) (Option.some Jvm.ClassFile.FieldType.boolean)) ∈ wA := kA (i := 428) (by decide +kernel) rfl
theorem k_429 : (Jvm.Cond.methodLink "java/lang/StringUTF16" (157 : Nat) ({ cls := "java/lang/Character", name := "highSurrogate", desc := "(I)C" } : Jvm.MethodName)) ∈ wA := kA (i := 429) (by decide +kernel) rfl
theorem k_430 : (Jvm.Cond.static ({ cls := "java/lang/Character", name := "highSurrogate", desc := "(I)C" } : Jvm.MethodName)) ∈ wA := kA (i := 430) (by decide +kernel) rfl
theorem k_431 : (Jvm.Cond.code ({ cls := "java/lang/Character", name := "highSurrogate", desc := "(I)C" } : Jvm.MethodName) prog_14_method_28_code (1 : Nat) (Option.some Jvm.ClassFile.FieldType.char)) ∈ wA := kA (i := 431) (by decide +kernel) rfl
theorem k_432 : (Jvm.Cond.constant "java/lang/Character" (110 : Nat) (55232 : Int32)) ∈ wA := kA (i := 432) (by decide +kernel) rfl
theorem k_433 : (Jvm.Cond.methodLink "java/lang/StringUTF16" (161 : Nat) ({ cls := "java/lang/Character", name := "lowSurrogate", desc := "(I)C" } : Jvm.MethodName)) ∈ wA := kA (i := 433) (by decide +kernel) rfl
theorem k_434 : (Jvm.Cond.static ({ cls := "java/lang/Character", name := "lowSurrogate", desc := "(I)C" } : Jvm.MethodName)) ∈ wA := kA (i := 434) (by decide +kernel) rfl
theorem k_435 : (Jvm.Cond.code ({ cls := "java/lang/Character", name := "lowSurrogate", desc := "(I)C" } : Jvm.MethodName) prog_14_method_29_code (1 : Nat) (Option.some Jvm.ClassFile.FieldType.char)) ∈ wA := kA (i := 435) (by decide +kernel) rfl
theorem k_436 : (Jvm.Cond.constant "java/lang/Character" (76 : Nat) (56320 : Int32)) ∈ wA := kA (i := 436) (by decide +kernel) rfl
theorem k_437 : (Jvm.Cond.methodLink "ChordGrammars$Reader" (61 : Nat) ({ cls := "ChordGrammars$Reader", name := "readCost", desc := "(LChordGrammars$Draft;)I" } : Jvm.MethodName)) ∈ wA := kA (i := 437) (by decide +kernel) rfl
theorem k_439 : (Jvm.Cond.instanceMethod ({ cls := "ChordGrammars$Reader", name := "readCost", desc := "(LChordGrammars$Draft;)I" } : Jvm.MethodName)) ∈ wA := kA (i := 439) (by decide +kernel) rfl
theorem k_440 : (Jvm.Cond.code ({ cls := "ChordGrammars$Reader", name := "readCost", desc := "(LChordGrammars$Draft;)I" } : Jvm.MethodName) prog_6_method_5_code (5 : Nat) (Option.some Jvm.ClassFile.FieldType.int)) ∈ wA := kA (i := 440) (by decide +kernel) rfl
theorem k_441 : (Jvm.Cond.methodLink "ChordGrammars$Reader" (85 : Nat) ({ cls := "ChordGrammars$Reader", name := "isFigure", desc := "(I)Z" } : Jvm.MethodName)) ∈ wA := kA (i := 441) (by decide +kernel) rfl
theorem k_442 : (Jvm.Cond.static ({ cls := "ChordGrammars$Reader", name := "isFigure", desc := "(I)Z" } : Jvm.MethodName)) ∈ wA := kA (i := 442) (by decide +kernel) rfl
theorem k_443 : (Jvm.Cond.code ({ cls := "ChordGrammars$Reader", name := "isFigure", desc := "(I)Z" } : Jvm.MethodName) prog_6_method_9_code (1 : Nat) (Option.some Jvm.ClassFile.FieldType.boolean)) ∈ wA := kA (i := 443) (by decide +kernel) rfl
theorem k_444 : (Jvm.Cond.methodLink "ChordGrammars$Reader" (40 : Nat) ({ cls := "ChordGrammars$Reader", name := "findReach", desc := "()V" } : Jvm.MethodName)) ∈ wA := kA (i := 444) (by decide +kernel) rfl
theorem k_446 : (Jvm.Cond.instanceMethod ({ cls := "ChordGrammars$Reader", name := "findReach", desc := "()V" } : Jvm.MethodName)) ∈ wA := kA (i := 446) (by decide +kernel) rfl
theorem k_447 : (Jvm.Cond.code ({ cls := "ChordGrammars$Reader", name := "findReach", desc := "()V" } : Jvm.MethodName) prog_6_method_11_code (3 : Nat) (Option.none : Option Jvm.ClassFile.FieldType)) ∈ wA := kA (i := 447) (by decide +kernel) rfl
theorem kn_448 : (Jvm.Cond.methodLinkNest "ChordGrammars$Reader" (98 : Nat) ({ cls := "ChordGrammars$Grammar", name := "renames", desc := "(I)Z" } : Jvm.MethodName) "ChordGrammars") ∈ wN := kN (i := 448) (by decide +kernel) rfl
theorem k_450 : (Jvm.Cond.instanceMethod ({ cls := "ChordGrammars$Grammar", name := "renames", desc := "(I)Z" } : Jvm.MethodName)) ∈ wA := kA (i := 450) (by decide +kernel) rfl
theorem k_451 : (Jvm.Cond.code ({ cls := "ChordGrammars$Grammar", name := "renames", desc := "(I)Z" } : Jvm.MethodName) prog_4_method_3_code (2 : Nat) (Option.some Jvm.ClassFile.FieldType.boolean)) ∈ wA := kA (i := 451) (by decide +kernel) rfl
theorem k_452 : (Jvm.Cond.methodLink "ChordGrammars$Reader" (101 : Nat) ({ cls := "ChordGrammars$Reader", name := "reaches", desc := "(II)Z" } : Jvm.MethodName)) ∈ wA := kA (i := 452) (by decide +kernel) rfl
theorem k_454 : (Jvm.Cond.instanceMethod ({ cls := "ChordGrammars$Reader", name := "reaches", desc := "(II)Z" } : Jvm.MethodName)) ∈ wA := kA (i := 454) (by decide +kernel) rfl
theorem k_455 : (Jvm.Cond.code ({ cls := "ChordGrammars$Reader", name := "reaches", desc := "(II)Z" } : Jvm.MethodName) prog_6_method_12_code (3 : Nat) (Option.some Jvm.ClassFile.FieldType.boolean)) ∈ wA := kA (i := 455) (by decide +kernel) rfl
theorem k_456 : (Jvm.Cond.methodLink "ChordGrammars$Reader" (43 : Nat) ({ cls := "ChordGrammars$Reader", name := "ringPlace", desc := "()I" } : Jvm.MethodName)) ∈ wA := kA (i := 456) (by decide +kernel) rfl
theorem k_458 : (Jvm.Cond.instanceMethod ({ cls := "ChordGrammars$Reader", name := "ringPlace", desc := "()I" } : Jvm.MethodName)) ∈ wA := kA (i := 458) (by decide +kernel) rfl
theorem k_459 : (Jvm.Cond.code ({ cls := "ChordGrammars$Reader", name := "ringPlace", desc := "()I" } : Jvm.MethodName) prog_6_method_13_code (2 : Nat) (Option.some Jvm.ClassFile.FieldType.int)) ∈ wA := kA (i := 459) (by decide +kernel) rfl
theorem k_460 : (Jvm.Cond.methodLink "ChordGrammars$Reader" (47 : Nat) ({ cls := "ChordGrammars$Reader", name := "arrange", desc := "()V" } : Jvm.MethodName)) ∈ wA := kA (i := 460) (by decide +kernel) rfl
theorem k_462 : (Jvm.Cond.instanceMethod ({ cls := "ChordGrammars$Reader", name := "arrange", desc := "()V" } : Jvm.MethodName)) ∈ wA := kA (i := 462) (by decide +kernel) rfl
theorem k_463 : (Jvm.Cond.code ({ cls := "ChordGrammars$Reader", name := "arrange", desc := "()V" } : Jvm.MethodName) prog_6_method_14_code (4 : Nat) (Option.none : Option Jvm.ClassFile.FieldType)) ∈ wA := kA (i := 463) (by decide +kernel) rfl
theorem k_464 : (Jvm.Cond.methodLink "ChordGrammars$Reader" (105 : Nat) ({ cls := "java/lang/Integer", name := "bitCount", desc := "(I)I" } : Jvm.MethodName)) ∈ wA := kA (i := 464) (by decide +kernel) rfl
theorem k_465 : (Jvm.Cond.static ({ cls := "java/lang/Integer", name := "bitCount", desc := "(I)I" } : Jvm.MethodName)) ∈ wA := kA (i := 465) (by decide +kernel) rfl
theorem k_466 : (Jvm.Cond.code ({ cls := "java/lang/Integer", name := "bitCount", desc := "(I)I" } : Jvm.MethodName) prog_17_method_49_code (1 : Nat) (Option.some Jvm.ClassFile.FieldType.int)) ∈ wA := kA (i := 466) (by decide +kernel) rfl
theorem k_467 : (Jvm.Cond.constant "java/lang/Integer" (265 : Nat) (1431655765 : Int32)) ∈ wA := kA (i := 467) (by decide +kernel) rfl
theorem k_468 : (Jvm.Cond.constant "java/lang/Integer" (266 : Nat) (858993459 : Int32)) ∈ wA := kA (i := 468) (by decide +kernel) rfl
theorem k_469 : (Jvm.Cond.constant "java/lang/Integer" (267 : Nat) (252645135 : Int32)) ∈ wA := kA (i := 469) (by decide +kernel) rfl
theorem kn_470 : (Jvm.Cond.methodLinkNest "ChordGrammars" (87 : Nat) ({ cls := "ChordGrammars$Grammar", name := "become", desc := "(LChordGrammars$Grammar;)V" } : Jvm.MethodName) "ChordGrammars") ∈ wN := kN (i := 470) (by decide +kernel) rfl
theorem k_472 : (Jvm.Cond.instanceMethod ({ cls := "ChordGrammars$Grammar", name := "become", desc := "(LChordGrammars$Grammar;)V" } : Jvm.MethodName)) ∈ wA := kA (i := 472) (by decide +kernel) rfl
theorem k_473 : (Jvm.Cond.code ({ cls := "ChordGrammars$Grammar", name := "become", desc := "(LChordGrammars$Grammar;)V" } : Jvm.MethodName) prog_4_method_2_code (2 : Nat) (Option.none : Option Jvm.ClassFile.FieldType)) ∈ wA := kA (i := 473) (by decide +kernel) rfl
theorem k_474 : (Jvm.Cond.methodLink "ChordGrammars$Grammar" (31 : Nat) ({ cls := "java/lang/System", name := "arraycopy", desc := "(Ljava/lang/Object;ILjava/lang/Object;II)V" } : Jvm.MethodName)) ∈ wA := kA (i := 474) (by decide +kernel) rfl
theorem k_475 : (Jvm.Cond.static ({ cls := "java/lang/System", name := "arraycopy", desc := "(Ljava/lang/Object;ILjava/lang/Object;II)V" } : Jvm.MethodName)) ∈ wA := kA (i := 475) (by decide +kernel) rfl
theorem k_476 : (Jvm.Cond.native ({ cls := "java/lang/System", name := "arraycopy", desc := "(Ljava/lang/Object;ILjava/lang/Object;II)V" } : Jvm.MethodName)) ∈ wA := kA (i := 476) (by decide +kernel) rfl
theorem k_477 : (Jvm.Cond.methodLink "ChordGrammarsLaw" (41 : Nat) ({ cls := "ChordGrammars", name := "slot", desc := "(III)I" } : Jvm.MethodName)) ∈ wA := kA (i := 477) (by decide +kernel) rfl
theorem k_478 : (Jvm.Cond.instanceMethod ({ cls := "ChordGrammars", name := "slot", desc := "(III)I" } : Jvm.MethodName)) ∈ wA := kA (i := 478) (by decide +kernel) rfl
theorem k_479 : (Jvm.Cond.selects "ChordGrammars" ({ cls := "ChordGrammars", name := "slot", desc := "(III)I" } : Jvm.MethodName) ({ cls := "ChordGrammars", name := "slot", desc := "(III)I" } : Jvm.MethodName)) ∈ wA := kA (i := 479) (by decide +kernel) rfl
theorem k_480 : (Jvm.Cond.code ({ cls := "ChordGrammars", name := "slot", desc := "(III)I" } : Jvm.MethodName) prog_1_method_6_code (4 : Nat) (Option.some Jvm.ClassFile.FieldType.int)) ∈ wA := kA (i := 480) (by decide +kernel) rfl
theorem kn_481 : (Jvm.Cond.methodLinkNest "ChordGrammars" (94 : Nat) ({ cls := "ChordGrammars$Slots", name := "add", desc := "(III)I" } : Jvm.MethodName) "ChordGrammars") ∈ wN := kN (i := 481) (by decide +kernel) rfl
theorem k_483 : (Jvm.Cond.instanceMethod ({ cls := "ChordGrammars$Slots", name := "add", desc := "(III)I" } : Jvm.MethodName)) ∈ wA := kA (i := 483) (by decide +kernel) rfl
theorem k_484 : (Jvm.Cond.code ({ cls := "ChordGrammars$Slots", name := "add", desc := "(III)I" } : Jvm.MethodName) prog_7_method_3_code (4 : Nat) (Option.some Jvm.ClassFile.FieldType.int)) ∈ wA := kA (i := 484) (by decide +kernel) rfl
theorem k_485 : (Jvm.Cond.methodLink "ChordGrammarsLaw" (46 : Nat) ({ cls := "ChordGrammars", name := "clear", desc := "()I" } : Jvm.MethodName)) ∈ wA := kA (i := 485) (by decide +kernel) rfl
theorem k_486 : (Jvm.Cond.instanceMethod ({ cls := "ChordGrammars", name := "clear", desc := "()I" } : Jvm.MethodName)) ∈ wA := kA (i := 486) (by decide +kernel) rfl
theorem k_487 : (Jvm.Cond.selects "ChordGrammars" ({ cls := "ChordGrammars", name := "clear", desc := "()I" } : Jvm.MethodName) ({ cls := "ChordGrammars", name := "clear", desc := "()I" } : Jvm.MethodName)) ∈ wA := kA (i := 487) (by decide +kernel) rfl
theorem k_488 : (Jvm.Cond.code ({ cls := "ChordGrammars", name := "clear", desc := "()I" } : Jvm.MethodName) prog_1_method_7_code (2 : Nat) (Option.some Jvm.ClassFile.FieldType.int)) ∈ wA := kA (i := 488) (by decide +kernel) rfl
theorem k_489 : (Jvm.Cond.methodLink "ChordGrammarsLaw" (50 : Nat) ({ cls := "ChordGrammars", name := "fit", desc := "(III)I" } : Jvm.MethodName)) ∈ wA := kA (i := 489) (by decide +kernel) rfl
theorem k_490 : (Jvm.Cond.instanceMethod ({ cls := "ChordGrammars", name := "fit", desc := "(III)I" } : Jvm.MethodName)) ∈ wA := kA (i := 490) (by decide +kernel) rfl
theorem k_491 : (Jvm.Cond.selects "ChordGrammars" ({ cls := "ChordGrammars", name := "fit", desc := "(III)I" } : Jvm.MethodName) ({ cls := "ChordGrammars", name := "fit", desc := "(III)I" } : Jvm.MethodName)) ∈ wA := kA (i := 491) (by decide +kernel) rfl
theorem k_492 : (Jvm.Cond.code ({ cls := "ChordGrammars", name := "fit", desc := "(III)I" } : Jvm.MethodName) prog_1_method_8_code (4 : Nat) (Option.some Jvm.ClassFile.FieldType.int)) ∈ wA := kA (i := 492) (by decide +kernel) rfl
theorem kn_493 : (Jvm.Cond.methodLinkNest "ChordGrammars" (101 : Nat) ({ cls := "ChordGrammars$Slots", name := "has", desc := "(I)Z" } : Jvm.MethodName) "ChordGrammars") ∈ wN := kN (i := 493) (by decide +kernel) rfl
theorem k_495 : (Jvm.Cond.instanceMethod ({ cls := "ChordGrammars$Slots", name := "has", desc := "(I)Z" } : Jvm.MethodName)) ∈ wA := kA (i := 495) (by decide +kernel) rfl
theorem k_496 : (Jvm.Cond.code ({ cls := "ChordGrammars$Slots", name := "has", desc := "(I)Z" } : Jvm.MethodName) prog_7_method_2_code (2 : Nat) (Option.some Jvm.ClassFile.FieldType.boolean)) ∈ wA := kA (i := 496) (by decide +kernel) rfl
theorem kn_497 : (Jvm.Cond.methodLinkNest "ChordGrammars" (112 : Nat) ({ cls := "ChordGrammars$Tariff", name := "ofFit", desc := "(IIII)I" } : Jvm.MethodName) "ChordGrammars") ∈ wN := kN (i := 497) (by decide +kernel) rfl
theorem k_499 : (Jvm.Cond.instanceMethod ({ cls := "ChordGrammars$Tariff", name := "ofFit", desc := "(IIII)I" } : Jvm.MethodName)) ∈ wA := kA (i := 499) (by decide +kernel) rfl
theorem k_500 : (Jvm.Cond.code ({ cls := "ChordGrammars$Tariff", name := "ofFit", desc := "(IIII)I" } : Jvm.MethodName) prog_9_method_3_code (9 : Nat) (Option.some Jvm.ClassFile.FieldType.int)) ∈ wA := kA (i := 500) (by decide +kernel) rfl
theorem kn_501 : (Jvm.Cond.methodLinkNest "ChordGrammars$Tariff" (15 : Nat) ({ cls := "ChordGrammars", name := "chordSet", desc := "(II)I" } : Jvm.MethodName) "ChordGrammars") ∈ wN := kN (i := 501) (by decide +kernel) rfl
theorem k_502 : (Jvm.Cond.static ({ cls := "ChordGrammars", name := "chordSet", desc := "(II)I" } : Jvm.MethodName)) ∈ wA := kA (i := 502) (by decide +kernel) rfl
theorem k_503 : (Jvm.Cond.code ({ cls := "ChordGrammars", name := "chordSet", desc := "(II)I" } : Jvm.MethodName) prog_1_method_22_code (3 : Nat) (Option.some Jvm.ClassFile.FieldType.int)) ∈ wA := kA (i := 503) (by decide +kernel) rfl
theorem k_504 : (Jvm.Cond.fieldLink "ChordGrammars" (199 : Nat) "ChordGrammars" "KIND_SETS" "[I") ∈ wA := kA (i := 504) (by decide +kernel) rfl
theorem k_506 : (Jvm.Cond.methodLink "ChordGrammars$Tariff" (19 : Nat) ({ cls := "java/lang/Integer", name := "bitCount", desc := "(I)I" } : Jvm.MethodName)) ∈ wA := kA (i := 506) (by decide +kernel) rfl
theorem k_507 : (Jvm.Cond.methodLink "ChordGrammars$Tariff" (25 : Nat) ({ cls := "ChordGrammars$Tariff", name := "ofBass", desc := "(III)I" } : Jvm.MethodName)) ∈ wA := kA (i := 507) (by decide +kernel) rfl
theorem k_509 : (Jvm.Cond.instanceMethod ({ cls := "ChordGrammars$Tariff", name := "ofBass", desc := "(III)I" } : Jvm.MethodName)) ∈ wA := kA (i := 509) (by decide +kernel) rfl
theorem k_510 : (Jvm.Cond.code ({ cls := "ChordGrammars$Tariff", name := "ofBass", desc := "(III)I" } : Jvm.MethodName) prog_9_method_4_code (4 : Nat) (Option.some Jvm.ClassFile.FieldType.int)) ∈ wA := kA (i := 510) (by decide +kernel) rfl
theorem k_511 : (Jvm.Cond.methodLink "ChordGrammarsLaw" (54 : Nat) ({ cls := "ChordGrammars", name := "best", desc := "(I)I" } : Jvm.MethodName)) ∈ wA := kA (i := 511) (by decide +kernel) rfl
theorem k_512 : (Jvm.Cond.instanceMethod ({ cls := "ChordGrammars", name := "best", desc := "(I)I" } : Jvm.MethodName)) ∈ wA := kA (i := 512) (by decide +kernel) rfl
theorem k_513 : (Jvm.Cond.selects "ChordGrammars" ({ cls := "ChordGrammars", name := "best", desc := "(I)I" } : Jvm.MethodName) ({ cls := "ChordGrammars", name := "best", desc := "(I)I" } : Jvm.MethodName)) ∈ wA := kA (i := 513) (by decide +kernel) rfl
theorem k_514 : (Jvm.Cond.code ({ cls := "ChordGrammars", name := "best", desc := "(I)I" } : Jvm.MethodName) prog_1_method_9_code (2 : Nat) (Option.some Jvm.ClassFile.FieldType.int)) ∈ wA := kA (i := 514) (by decide +kernel) rfl
theorem kn_515 : (Jvm.Cond.methodLinkNest "ChordGrammars" (116 : Nat) ({ cls := "ChordGrammars$Tariff", name := "cheapest", desc := "(II)I" } : Jvm.MethodName) "ChordGrammars") ∈ wN := kN (i := 515) (by decide +kernel) rfl
theorem k_517 : (Jvm.Cond.instanceMethod ({ cls := "ChordGrammars$Tariff", name := "cheapest", desc := "(II)I" } : Jvm.MethodName)) ∈ wA := kA (i := 517) (by decide +kernel) rfl
theorem k_518 : (Jvm.Cond.code ({ cls := "ChordGrammars$Tariff", name := "cheapest", desc := "(II)I" } : Jvm.MethodName) prog_9_method_5_code (8 : Nat) (Option.some Jvm.ClassFile.FieldType.int)) ∈ wA := kA (i := 518) (by decide +kernel) rfl
theorem k_519 : (Jvm.Cond.constant "ChordGrammars$Tariff" (29 : Nat) (2147483647 : Int32)) ∈ wA := kA (i := 519) (by decide +kernel) rfl
theorem k_520 : (Jvm.Cond.methodLink "ChordGrammars$Tariff" (30 : Nat) ({ cls := "ChordGrammars$Tariff", name := "ofFit", desc := "(IIII)I" } : Jvm.MethodName)) ∈ wA := kA (i := 520) (by decide +kernel) rfl
theorem k_521 : (Jvm.Cond.methodLink "ChordGrammarsLaw" (59 : Nat) ({ cls := "ChordGrammars", name := "parse", desc := "()I" } : Jvm.MethodName)) ∈ wA := kA (i := 521) (by decide +kernel) rfl
theorem k_522 : (Jvm.Cond.instanceMethod ({ cls := "ChordGrammars", name := "parse", desc := "()I" } : Jvm.MethodName)) ∈ wA := kA (i := 522) (by decide +kernel) rfl
theorem k_523 : (Jvm.Cond.selects "ChordGrammars" ({ cls := "ChordGrammars", name := "parse", desc := "()I" } : Jvm.MethodName) ({ cls := "ChordGrammars", name := "parse", desc := "()I" } : Jvm.MethodName)) ∈ wA := kA (i := 523) (by decide +kernel) rfl
theorem k_524 : (Jvm.Cond.code ({ cls := "ChordGrammars", name := "parse", desc := "()I" } : Jvm.MethodName) prog_1_method_10_code (1 : Nat) (Option.some Jvm.ClassFile.FieldType.int)) ∈ wA := kA (i := 524) (by decide +kernel) rfl
theorem kn_525 : (Jvm.Cond.methodLinkNest "ChordGrammars" (120 : Nat) ({ cls := "ChordGrammars$Chart", name := "listAll", desc := "(LChordGrammars$Grammar;LChordGrammars$Slots;LChordGrammars$Key;LChordGrammars$Tariff;)V" } : Jvm.MethodName) "ChordGrammars") ∈ wN := kN (i := 525) (by decide +kernel) rfl
theorem k_527 : (Jvm.Cond.instanceMethod ({ cls := "ChordGrammars$Chart", name := "listAll", desc := "(LChordGrammars$Grammar;LChordGrammars$Slots;LChordGrammars$Key;LChordGrammars$Tariff;)V" } : Jvm.MethodName)) ∈ wA := kA (i := 527) (by decide +kernel) rfl
theorem k_528 : (Jvm.Cond.code ({ cls := "ChordGrammars$Chart", name := "listAll", desc := "(LChordGrammars$Grammar;LChordGrammars$Slots;LChordGrammars$Key;LChordGrammars$Tariff;)V" } : Jvm.MethodName) prog_2_method_2_code (7 : Nat) (Option.none : Option Jvm.ClassFile.FieldType)) ∈ wA := kA (i := 528) (by decide +kernel) rfl
theorem kn_529 : (Jvm.Cond.methodLinkNest "ChordGrammars$Chart" (44 : Nat) ({ cls := "ChordGrammars$Grammar", name := "become", desc := "(LChordGrammars$Grammar;)V" } : Jvm.MethodName) "ChordGrammars") ∈ wN := kN (i := 529) (by decide +kernel) rfl
theorem k_530 : (Jvm.Cond.methodLink "ChordGrammars$Chart" (54 : Nat) ({ cls := "java/lang/System", name := "arraycopy", desc := "(Ljava/lang/Object;ILjava/lang/Object;II)V" } : Jvm.MethodName)) ∈ wA := kA (i := 530) (by decide +kernel) rfl
theorem kn_531 : (Jvm.Cond.methodLinkNest "ChordGrammars$Chart" (60 : Nat) ({ cls := "ChordGrammars$Symbols", name := "fill", desc := "(LChordGrammars$Slots;LChordGrammars$Key;LChordGrammars$Tariff;)V" } : Jvm.MethodName) "ChordGrammars") ∈ wN := kN (i := 531) (by decide +kernel) rfl
theorem k_533 : (Jvm.Cond.instanceMethod ({ cls := "ChordGrammars$Symbols", name := "fill", desc := "(LChordGrammars$Slots;LChordGrammars$Key;LChordGrammars$Tariff;)V" } : Jvm.MethodName)) ∈ wA := kA (i := 533) (by decide +kernel) rfl
theorem k_534 : (Jvm.Cond.code ({ cls := "ChordGrammars$Symbols", name := "fill", desc := "(LChordGrammars$Slots;LChordGrammars$Key;LChordGrammars$Tariff;)V" } : Jvm.MethodName) prog_8_method_2_code (6 : Nat) (Option.none : Option Jvm.ClassFile.FieldType)) ∈ wA := kA (i := 534) (by decide +kernel) rfl
theorem kn_535 : (Jvm.Cond.methodLinkNest "ChordGrammars$Symbols" (24 : Nat) ({ cls := "ChordGrammars$Key", name := "rootOf", desc := "(I)I" } : Jvm.MethodName) "ChordGrammars") ∈ wN := kN (i := 535) (by decide +kernel) rfl
theorem k_537 : (Jvm.Cond.instanceMethod ({ cls := "ChordGrammars$Key", name := "rootOf", desc := "(I)I" } : Jvm.MethodName)) ∈ wA := kA (i := 537) (by decide +kernel) rfl
theorem k_538 : (Jvm.Cond.code ({ cls := "ChordGrammars$Key", name := "rootOf", desc := "(I)I" } : Jvm.MethodName) prog_5_method_3_code (2 : Nat) (Option.some Jvm.ClassFile.FieldType.int)) ∈ wA := kA (i := 538) (by decide +kernel) rfl
theorem kn_539 : (Jvm.Cond.fieldLinkNest "ChordGrammars$Key" (19 : Nat) "ChordGrammars" "MINOR" "[I" "ChordGrammars") ∈ wN := kN (i := 539) (by decide +kernel) rfl
theorem kn_541 : (Jvm.Cond.fieldLinkNest "ChordGrammars$Key" (23 : Nat) "ChordGrammars" "MAJOR" "[I" "ChordGrammars") ∈ wN := kN (i := 541) (by decide +kernel) rfl
theorem k_543 : (Jvm.Cond.methodLink "ChordGrammars$Symbols" (30 : Nat) ({ cls := "ChordGrammars$Symbols", name := "fillDegree", desc := "(LChordGrammars$Slots;IIILChordGrammars$Tariff;)V" } : Jvm.MethodName)) ∈ wA := kA (i := 543) (by decide +kernel) rfl
theorem k_545 : (Jvm.Cond.instanceMethod ({ cls := "ChordGrammars$Symbols", name := "fillDegree", desc := "(LChordGrammars$Slots;IIILChordGrammars$Tariff;)V" } : Jvm.MethodName)) ∈ wA := kA (i := 545) (by decide +kernel) rfl
theorem k_546 : (Jvm.Cond.code ({ cls := "ChordGrammars$Symbols", name := "fillDegree", desc := "(LChordGrammars$Slots;IIILChordGrammars$Tariff;)V" } : Jvm.MethodName) prog_8_method_3_code (11 : Nat) (Option.none : Option Jvm.ClassFile.FieldType)) ∈ wA := kA (i := 546) (by decide +kernel) rfl
theorem kn_547 : (Jvm.Cond.methodLinkNest "ChordGrammars$Symbols" (40 : Nat) ({ cls := "ChordGrammars$Tariff", name := "ofFit", desc := "(IIII)I" } : Jvm.MethodName) "ChordGrammars") ∈ wN := kN (i := 547) (by decide +kernel) rfl
theorem k_548 : (Jvm.Cond.methodLink "ChordGrammars$Chart" (64 : Nat) ({ cls := "ChordGrammars$Chart", name := "fillSpan", desc := "(II)V" } : Jvm.MethodName)) ∈ wA := kA (i := 548) (by decide +kernel) rfl
theorem k_550 : (Jvm.Cond.instanceMethod ({ cls := "ChordGrammars$Chart", name := "fillSpan", desc := "(II)V" } : Jvm.MethodName)) ∈ wA := kA (i := 550) (by decide +kernel) rfl
theorem k_551 : (Jvm.Cond.code ({ cls := "ChordGrammars$Chart", name := "fillSpan", desc := "(II)V" } : Jvm.MethodName) prog_2_method_3_code (6 : Nat) (Option.none : Option Jvm.ClassFile.FieldType)) ∈ wA := kA (i := 551) (by decide +kernel) rfl
theorem k_552 : (Jvm.Cond.methodLink "ChordGrammars$Chart" (68 : Nat) ({ cls := "ChordGrammars$Chart", name := "rowOf", desc := "(III)I" } : Jvm.MethodName)) ∈ wA := kA (i := 552) (by decide +kernel) rfl
theorem k_553 : (Jvm.Cond.static ({ cls := "ChordGrammars$Chart", name := "rowOf", desc := "(III)I" } : Jvm.MethodName)) ∈ wA := kA (i := 553) (by decide +kernel) rfl
theorem k_554 : (Jvm.Cond.code ({ cls := "ChordGrammars$Chart", name := "rowOf", desc := "(III)I" } : Jvm.MethodName) prog_2_method_18_code (3 : Nat) (Option.some Jvm.ClassFile.FieldType.int)) ∈ wA := kA (i := 554) (by decide +kernel) rfl
theorem k_555 : (Jvm.Cond.methodLink "ChordGrammars$Chart" (81 : Nat) ({ cls := "ChordGrammars$Chart", name := "addWhole", desc := "(III)V" } : Jvm.MethodName)) ∈ wA := kA (i := 555) (by decide +kernel) rfl
theorem k_557 : (Jvm.Cond.instanceMethod ({ cls := "ChordGrammars$Chart", name := "addWhole", desc := "(III)V" } : Jvm.MethodName)) ∈ wA := kA (i := 557) (by decide +kernel) rfl
theorem k_558 : (Jvm.Cond.code ({ cls := "ChordGrammars$Chart", name := "addWhole", desc := "(III)V" } : Jvm.MethodName) prog_2_method_4_code (10 : Nat) (Option.none : Option Jvm.ClassFile.FieldType)) ∈ wA := kA (i := 558) (by decide +kernel) rfl
theorem k_559 : (Jvm.Cond.methodLink "ChordGrammars$Chart" (95 : Nat) ({ cls := "ChordGrammars$Chart", name := "sizeOf", desc := "(III)I" } : Jvm.MethodName)) ∈ wA := kA (i := 559) (by decide +kernel) rfl
theorem k_561 : (Jvm.Cond.instanceMethod ({ cls := "ChordGrammars$Chart", name := "sizeOf", desc := "(III)I" } : Jvm.MethodName)) ∈ wA := kA (i := 561) (by decide +kernel) rfl
theorem k_562 : (Jvm.Cond.code ({ cls := "ChordGrammars$Chart", name := "sizeOf", desc := "(III)I" } : Jvm.MethodName) prog_2_method_13_code (4 : Nat) (Option.some Jvm.ClassFile.FieldType.int)) ∈ wA := kA (i := 562) (by decide +kernel) rfl
theorem k_563 : (Jvm.Cond.methodLink "ChordGrammars$Chart" (131 : Nat) ({ cls := "ChordGrammars$Chart", name := "chordOf", desc := "(II)I" } : Jvm.MethodName)) ∈ wA := kA (i := 563) (by decide +kernel) rfl
theorem k_565 : (Jvm.Cond.instanceMethod ({ cls := "ChordGrammars$Chart", name := "chordOf", desc := "(II)I" } : Jvm.MethodName)) ∈ wA := kA (i := 565) (by decide +kernel) rfl
theorem k_566 : (Jvm.Cond.code ({ cls := "ChordGrammars$Chart", name := "chordOf", desc := "(II)I" } : Jvm.MethodName) prog_2_method_16_code (3 : Nat) (Option.some Jvm.ClassFile.FieldType.int)) ∈ wA := kA (i := 566) (by decide +kernel) rfl
theorem k_567 : (Jvm.Cond.methodLink "ChordGrammars$Chart" (98 : Nat) ({ cls := "ChordGrammars$Chart", name := "countOf", desc := "(III)J" } : Jvm.MethodName)) ∈ wA := kA (i := 567) (by decide +kernel) rfl
theorem k_569 : (Jvm.Cond.instanceMethod ({ cls := "ChordGrammars$Chart", name := "countOf", desc := "(III)J" } : Jvm.MethodName)) ∈ wA := kA (i := 569) (by decide +kernel) rfl
theorem k_570 : (Jvm.Cond.code ({ cls := "ChordGrammars$Chart", name := "countOf", desc := "(III)J" } : Jvm.MethodName) prog_2_method_14_code (4 : Nat) (Option.some Jvm.ClassFile.FieldType.long)) ∈ wA := kA (i := 570) (by decide +kernel) rfl
theorem k_571 : (Jvm.Cond.methodLink "ChordGrammars$Chart" (105 : Nat) ({ cls := "ChordGrammars$Chart", name := "priceOf", desc := "(IIII)I" } : Jvm.MethodName)) ∈ wA := kA (i := 571) (by decide +kernel) rfl
theorem k_573 : (Jvm.Cond.instanceMethod ({ cls := "ChordGrammars$Chart", name := "priceOf", desc := "(IIII)I" } : Jvm.MethodName)) ∈ wA := kA (i := 573) (by decide +kernel) rfl
theorem k_574 : (Jvm.Cond.code ({ cls := "ChordGrammars$Chart", name := "priceOf", desc := "(IIII)I" } : Jvm.MethodName) prog_2_method_15_code (5 : Nat) (Option.some Jvm.ClassFile.FieldType.int)) ∈ wA := kA (i := 574) (by decide +kernel) rfl
theorem k_575 : (Jvm.Cond.methodLink "ChordGrammars$Chart" (134 : Nat) ({ cls := "ChordGrammars$Chart", name := "entryAt", desc := "(IIII)J" } : Jvm.MethodName)) ∈ wA := kA (i := 575) (by decide +kernel) rfl
theorem k_577 : (Jvm.Cond.instanceMethod ({ cls := "ChordGrammars$Chart", name := "entryAt", desc := "(IIII)J" } : Jvm.MethodName)) ∈ wA := kA (i := 577) (by decide +kernel) rfl
theorem k_578 : (Jvm.Cond.code ({ cls := "ChordGrammars$Chart", name := "entryAt", desc := "(IIII)J" } : Jvm.MethodName) prog_2_method_17_code (5 : Nat) (Option.some Jvm.ClassFile.FieldType.long)) ∈ wA := kA (i := 578) (by decide +kernel) rfl
theorem k_579 : (Jvm.Cond.methodLink "ChordGrammars$Chart" (109 : Nat) ({ cls := "ChordGrammars$Chart", name := "entryOf", desc := "(IIIII)J" } : Jvm.MethodName)) ∈ wA := kA (i := 579) (by decide +kernel) rfl
theorem k_580 : (Jvm.Cond.static ({ cls := "ChordGrammars$Chart", name := "entryOf", desc := "(IIIII)J" } : Jvm.MethodName)) ∈ wA := kA (i := 580) (by decide +kernel) rfl
theorem k_581 : (Jvm.Cond.code ({ cls := "ChordGrammars$Chart", name := "entryOf", desc := "(IIIII)J" } : Jvm.MethodName) prog_2_method_19_code (7 : Nat) (Option.some Jvm.ClassFile.FieldType.long)) ∈ wA := kA (i := 581) (by decide +kernel) rfl
theorem k_582 : (Jvm.Cond.methodLink "ChordGrammars$Chart" (113 : Nat) ({ cls := "ChordGrammars$Chart", name := "offer", desc := "(IJ)Z" } : Jvm.MethodName)) ∈ wA := kA (i := 582) (by decide +kernel) rfl
theorem k_584 : (Jvm.Cond.instanceMethod ({ cls := "ChordGrammars$Chart", name := "offer", desc := "(IJ)Z" } : Jvm.MethodName)) ∈ wA := kA (i := 584) (by decide +kernel) rfl
theorem k_585 : (Jvm.Cond.code ({ cls := "ChordGrammars$Chart", name := "offer", desc := "(IJ)Z" } : Jvm.MethodName) prog_2_method_6_code (6 : Nat) (Option.some Jvm.ClassFile.FieldType.boolean)) ∈ wA := kA (i := 585) (by decide +kernel) rfl
theorem k_586 : (Jvm.Cond.methodLink "ChordGrammars$Chart" (85 : Nat) ({ cls := "ChordGrammars$Chart", name := "addParts", desc := "(IIII)V" } : Jvm.MethodName)) ∈ wA := kA (i := 586) (by decide +kernel) rfl
theorem k_588 : (Jvm.Cond.instanceMethod ({ cls := "ChordGrammars$Chart", name := "addParts", desc := "(IIII)V" } : Jvm.MethodName)) ∈ wA := kA (i := 588) (by decide +kernel) rfl
theorem k_589 : (Jvm.Cond.code ({ cls := "ChordGrammars$Chart", name := "addParts", desc := "(IIII)V" } : Jvm.MethodName) prog_2_method_5_code (16 : Nat) (Option.none : Option Jvm.ClassFile.FieldType)) ∈ wA := kA (i := 589) (by decide +kernel) rfl
theorem k_590 : (Jvm.Cond.methodLink "ChordGrammars$Chart" (117 : Nat) ({ cls := "java/lang/Math", name := "min", desc := "(II)I" } : Jvm.MethodName)) ∈ wA := kA (i := 590) (by decide +kernel) rfl
theorem kn_591 : (Jvm.Cond.methodLinkNest "ChordGrammars" (127 : Nat) ({ cls := "ChordGrammars$Chart", name := "listed", desc := "()I" } : Jvm.MethodName) "ChordGrammars") ∈ wN := kN (i := 591) (by decide +kernel) rfl
theorem k_593 : (Jvm.Cond.instanceMethod ({ cls := "ChordGrammars$Chart", name := "listed", desc := "()I" } : Jvm.MethodName)) ∈ wA := kA (i := 593) (by decide +kernel) rfl
theorem k_594 : (Jvm.Cond.code ({ cls := "ChordGrammars$Chart", name := "listed", desc := "()I" } : Jvm.MethodName) prog_2_method_7_code (1 : Nat) (Option.some Jvm.ClassFile.FieldType.int)) ∈ wA := kA (i := 594) (by decide +kernel) rfl
theorem k_595 : (Jvm.Cond.methodLink "ChordGrammars$Chart" (123 : Nat) ({ cls := "ChordGrammars$Chart", name := "wholeRow", desc := "()I" } : Jvm.MethodName)) ∈ wA := kA (i := 595) (by decide +kernel) rfl
theorem k_597 : (Jvm.Cond.instanceMethod ({ cls := "ChordGrammars$Chart", name := "wholeRow", desc := "()I" } : Jvm.MethodName)) ∈ wA := kA (i := 597) (by decide +kernel) rfl
theorem k_598 : (Jvm.Cond.code ({ cls := "ChordGrammars$Chart", name := "wholeRow", desc := "()I" } : Jvm.MethodName) prog_2_method_10_code (1 : Nat) (Option.some Jvm.ClassFile.FieldType.int)) ∈ wA := kA (i := 598) (by decide +kernel) rfl
theorem k_599 : (Jvm.Cond.methodLink "ChordGrammarsLaw" (63 : Nat) ({ cls := "ChordGrammars", name := "readings", desc := "()J" } : Jvm.MethodName)) ∈ wA := kA (i := 599) (by decide +kernel) rfl
theorem k_600 : (Jvm.Cond.instanceMethod ({ cls := "ChordGrammars", name := "readings", desc := "()J" } : Jvm.MethodName)) ∈ wA := kA (i := 600) (by decide +kernel) rfl
theorem k_601 : (Jvm.Cond.selects "ChordGrammars" ({ cls := "ChordGrammars", name := "readings", desc := "()J" } : Jvm.MethodName) ({ cls := "ChordGrammars", name := "readings", desc := "()J" } : Jvm.MethodName)) ∈ wA := kA (i := 601) (by decide +kernel) rfl
theorem k_602 : (Jvm.Cond.code ({ cls := "ChordGrammars", name := "readings", desc := "()J" } : Jvm.MethodName) prog_1_method_11_code (1 : Nat) (Option.some Jvm.ClassFile.FieldType.long)) ∈ wA := kA (i := 602) (by decide +kernel) rfl
theorem kn_603 : (Jvm.Cond.methodLinkNest "ChordGrammars" (131 : Nat) ({ cls := "ChordGrammars$Chart", name := "countOfAll", desc := "()J" } : Jvm.MethodName) "ChordGrammars") ∈ wN := kN (i := 603) (by decide +kernel) rfl
theorem k_605 : (Jvm.Cond.instanceMethod ({ cls := "ChordGrammars$Chart", name := "countOfAll", desc := "()J" } : Jvm.MethodName)) ∈ wA := kA (i := 605) (by decide +kernel) rfl
theorem k_606 : (Jvm.Cond.code ({ cls := "ChordGrammars$Chart", name := "countOfAll", desc := "()J" } : Jvm.MethodName) prog_2_method_8_code (1 : Nat) (Option.some Jvm.ClassFile.FieldType.long)) ∈ wA := kA (i := 606) (by decide +kernel) rfl
theorem k_607 : (Jvm.Cond.methodLink "ChordGrammarsLaw" (68 : Nat) ({ cls := "ChordGrammars", name := "price", desc := "(I)I" } : Jvm.MethodName)) ∈ wA := kA (i := 607) (by decide +kernel) rfl
theorem k_608 : (Jvm.Cond.instanceMethod ({ cls := "ChordGrammars", name := "price", desc := "(I)I" } : Jvm.MethodName)) ∈ wA := kA (i := 608) (by decide +kernel) rfl
theorem k_609 : (Jvm.Cond.selects "ChordGrammars" ({ cls := "ChordGrammars", name := "price", desc := "(I)I" } : Jvm.MethodName) ({ cls := "ChordGrammars", name := "price", desc := "(I)I" } : Jvm.MethodName)) ∈ wA := kA (i := 609) (by decide +kernel) rfl
theorem k_610 : (Jvm.Cond.code ({ cls := "ChordGrammars", name := "price", desc := "(I)I" } : Jvm.MethodName) prog_1_method_12_code (2 : Nat) (Option.some Jvm.ClassFile.FieldType.int)) ∈ wA := kA (i := 610) (by decide +kernel) rfl
theorem k_611 : (Jvm.Cond.methodLink "ChordGrammars" (135 : Nat) ({ cls := "ChordGrammars", name := "isListed", desc := "(I)Z" } : Jvm.MethodName)) ∈ wA := kA (i := 611) (by decide +kernel) rfl
theorem k_613 : (Jvm.Cond.instanceMethod ({ cls := "ChordGrammars", name := "isListed", desc := "(I)Z" } : Jvm.MethodName)) ∈ wA := kA (i := 613) (by decide +kernel) rfl
theorem k_614 : (Jvm.Cond.code ({ cls := "ChordGrammars", name := "isListed", desc := "(I)Z" } : Jvm.MethodName) prog_1_method_20_code (2 : Nat) (Option.some Jvm.ClassFile.FieldType.boolean)) ∈ wA := kA (i := 614) (by decide +kernel) rfl
theorem kn_615 : (Jvm.Cond.methodLinkNest "ChordGrammars" (138 : Nat) ({ cls := "ChordGrammars$Chart", name := "priceOfWhole", desc := "(I)I" } : Jvm.MethodName) "ChordGrammars") ∈ wN := kN (i := 615) (by decide +kernel) rfl
theorem k_617 : (Jvm.Cond.instanceMethod ({ cls := "ChordGrammars$Chart", name := "priceOfWhole", desc := "(I)I" } : Jvm.MethodName)) ∈ wA := kA (i := 617) (by decide +kernel) rfl
theorem k_618 : (Jvm.Cond.code ({ cls := "ChordGrammars$Chart", name := "priceOfWhole", desc := "(I)I" } : Jvm.MethodName) prog_2_method_9_code (2 : Nat) (Option.some Jvm.ClassFile.FieldType.int)) ∈ wA := kA (i := 618) (by decide +kernel) rfl
theorem k_619 : (Jvm.Cond.methodLink "ChordGrammarsLaw" (72 : Nat) ({ cls := "ChordGrammars", name := "node", desc := "(III)I" } : Jvm.MethodName)) ∈ wA := kA (i := 619) (by decide +kernel) rfl
theorem k_620 : (Jvm.Cond.instanceMethod ({ cls := "ChordGrammars", name := "node", desc := "(III)I" } : Jvm.MethodName)) ∈ wA := kA (i := 620) (by decide +kernel) rfl
theorem k_621 : (Jvm.Cond.selects "ChordGrammars" ({ cls := "ChordGrammars", name := "node", desc := "(III)I" } : Jvm.MethodName) ({ cls := "ChordGrammars", name := "node", desc := "(III)I" } : Jvm.MethodName)) ∈ wA := kA (i := 621) (by decide +kernel) rfl
theorem k_622 : (Jvm.Cond.code ({ cls := "ChordGrammars", name := "node", desc := "(III)I" } : Jvm.MethodName) prog_1_method_13_code (4 : Nat) (Option.some Jvm.ClassFile.FieldType.int)) ∈ wA := kA (i := 622) (by decide +kernel) rfl
theorem k_623 : (Jvm.Cond.methodLink "ChordGrammars" (142 : Nat) ({ cls := "ChordGrammars", name := "treeOf", desc := "(I)LChordGrammars$Tree;" } : Jvm.MethodName)) ∈ wA := kA (i := 623) (by decide +kernel) rfl
theorem k_625 : (Jvm.Cond.instanceMethod ({ cls := "ChordGrammars", name := "treeOf", desc := "(I)LChordGrammars$Tree;" } : Jvm.MethodName)) ∈ wA := kA (i := 625) (by decide +kernel) rfl
theorem k_626 : (Jvm.Cond.code ({ cls := "ChordGrammars", name := "treeOf", desc := "(I)LChordGrammars$Tree;" } : Jvm.MethodName) prog_1_method_21_code (2 : Nat) (Option.some (Jvm.ClassFile.FieldType.object "ChordGrammars$Tree"))) ∈ wA := kA (i := 626) (by decide +kernel) rfl
theorem kn_627 : (Jvm.Cond.methodLinkNest "ChordGrammars" (195 : Nat) ({ cls := "ChordGrammars$Tree", name := "walk", desc := "(LChordGrammars$Chart;I)V" } : Jvm.MethodName) "ChordGrammars") ∈ wN := kN (i := 627) (by decide +kernel) rfl
theorem k_629 : (Jvm.Cond.instanceMethod ({ cls := "ChordGrammars$Tree", name := "walk", desc := "(LChordGrammars$Chart;I)V" } : Jvm.MethodName)) ∈ wA := kA (i := 629) (by decide +kernel) rfl
theorem k_630 : (Jvm.Cond.code ({ cls := "ChordGrammars$Tree", name := "walk", desc := "(LChordGrammars$Chart;I)V" } : Jvm.MethodName) prog_10_method_2_code (4 : Nat) (Option.none : Option Jvm.ClassFile.FieldType)) ∈ wA := kA (i := 630) (by decide +kernel) rfl
theorem k_631 : (Jvm.Cond.methodLink "ChordGrammars$Tree" (66 : Nat) ({ cls := "ChordGrammars$Tree", name := "push", desc := "(IIII)V" } : Jvm.MethodName)) ∈ wA := kA (i := 631) (by decide +kernel) rfl
theorem k_633 : (Jvm.Cond.instanceMethod ({ cls := "ChordGrammars$Tree", name := "push", desc := "(IIII)V" } : Jvm.MethodName)) ∈ wA := kA (i := 633) (by decide +kernel) rfl
theorem k_634 : (Jvm.Cond.code ({ cls := "ChordGrammars$Tree", name := "push", desc := "(IIII)V" } : Jvm.MethodName) prog_10_method_5_code (5 : Nat) (Option.none : Option Jvm.ClassFile.FieldType)) ∈ wA := kA (i := 634) (by decide +kernel) rfl
theorem k_635 : (Jvm.Cond.methodLink "ChordGrammars$Tree" (70 : Nat) ({ cls := "ChordGrammars$Tree", name := "visit", desc := "(LChordGrammars$Chart;II)V" } : Jvm.MethodName)) ∈ wA := kA (i := 635) (by decide +kernel) rfl
theorem k_637 : (Jvm.Cond.instanceMethod ({ cls := "ChordGrammars$Tree", name := "visit", desc := "(LChordGrammars$Chart;II)V" } : Jvm.MethodName)) ∈ wA := kA (i := 637) (by decide +kernel) rfl
theorem k_638 : (Jvm.Cond.code ({ cls := "ChordGrammars$Tree", name := "visit", desc := "(LChordGrammars$Chart;II)V" } : Jvm.MethodName) prog_10_method_3_code (9 : Nat) (Option.none : Option Jvm.ClassFile.FieldType)) ∈ wA := kA (i := 638) (by decide +kernel) rfl
theorem kn_639 : (Jvm.Cond.methodLinkNest "ChordGrammars$Tree" (74 : Nat) ({ cls := "ChordGrammars$Chart", name := "chordOf", desc := "(II)I" } : Jvm.MethodName) "ChordGrammars") ∈ wN := kN (i := 639) (by decide +kernel) rfl
theorem kn_640 : (Jvm.Cond.methodLinkNest "ChordGrammars$Tree" (78 : Nat) ({ cls := "ChordGrammars$Chart", name := "sizeOf", desc := "(III)I" } : Jvm.MethodName) "ChordGrammars") ∈ wN := kN (i := 640) (by decide +kernel) rfl
theorem kn_641 : (Jvm.Cond.methodLinkNest "ChordGrammars$Tree" (82 : Nat) ({ cls := "ChordGrammars$Chart", name := "entryAt", desc := "(IIII)J" } : Jvm.MethodName) "ChordGrammars") ∈ wN := kN (i := 641) (by decide +kernel) rfl
theorem kn_642 : (Jvm.Cond.methodLinkNest "ChordGrammars$Tree" (86 : Nat) ({ cls := "ChordGrammars$Chart", name := "ruleOf", desc := "(J)I" } : Jvm.MethodName) "ChordGrammars") ∈ wN := kN (i := 642) (by decide +kernel) rfl
theorem k_643 : (Jvm.Cond.static ({ cls := "ChordGrammars$Chart", name := "ruleOf", desc := "(J)I" } : Jvm.MethodName)) ∈ wA := kA (i := 643) (by decide +kernel) rfl
theorem k_644 : (Jvm.Cond.code ({ cls := "ChordGrammars$Chart", name := "ruleOf", desc := "(J)I" } : Jvm.MethodName) prog_2_method_20_code (2 : Nat) (Option.some Jvm.ClassFile.FieldType.int)) ∈ wA := kA (i := 644) (by decide +kernel) rfl
theorem k_645 : (Jvm.Cond.methodLink "ChordGrammars$Tree" (90 : Nat) ({ cls := "ChordGrammars$Tree", name := "pushParts", desc := "(LChordGrammars$Grammar;JII)V" } : Jvm.MethodName)) ∈ wA := kA (i := 645) (by decide +kernel) rfl
theorem k_647 : (Jvm.Cond.instanceMethod ({ cls := "ChordGrammars$Tree", name := "pushParts", desc := "(LChordGrammars$Grammar;JII)V" } : Jvm.MethodName)) ∈ wA := kA (i := 647) (by decide +kernel) rfl
theorem k_648 : (Jvm.Cond.code ({ cls := "ChordGrammars$Tree", name := "pushParts", desc := "(LChordGrammars$Grammar;JII)V" } : Jvm.MethodName) prog_10_method_4_code (8 : Nat) (Option.none : Option Jvm.ClassFile.FieldType)) ∈ wA := kA (i := 648) (by decide +kernel) rfl
theorem kn_649 : (Jvm.Cond.methodLinkNest "ChordGrammars$Tree" (96 : Nat) ({ cls := "ChordGrammars$Chart", name := "partOf", desc := "(J)I" } : Jvm.MethodName) "ChordGrammars") ∈ wN := kN (i := 649) (by decide +kernel) rfl
theorem k_650 : (Jvm.Cond.static ({ cls := "ChordGrammars$Chart", name := "partOf", desc := "(J)I" } : Jvm.MethodName)) ∈ wA := kA (i := 650) (by decide +kernel) rfl
theorem k_651 : (Jvm.Cond.code ({ cls := "ChordGrammars$Chart", name := "partOf", desc := "(J)I" } : Jvm.MethodName) prog_2_method_21_code (2 : Nat) (Option.some Jvm.ClassFile.FieldType.int)) ∈ wA := kA (i := 651) (by decide +kernel) rfl
theorem kn_652 : (Jvm.Cond.methodLinkNest "ChordGrammars$Tree" (105 : Nat) ({ cls := "ChordGrammars$Chart", name := "rankOneOf", desc := "(J)I" } : Jvm.MethodName) "ChordGrammars") ∈ wN := kN (i := 652) (by decide +kernel) rfl
theorem k_653 : (Jvm.Cond.static ({ cls := "ChordGrammars$Chart", name := "rankOneOf", desc := "(J)I" } : Jvm.MethodName)) ∈ wA := kA (i := 653) (by decide +kernel) rfl
theorem k_654 : (Jvm.Cond.code ({ cls := "ChordGrammars$Chart", name := "rankOneOf", desc := "(J)I" } : Jvm.MethodName) prog_2_method_22_code (2 : Nat) (Option.some Jvm.ClassFile.FieldType.int)) ∈ wA := kA (i := 654) (by decide +kernel) rfl
theorem kn_655 : (Jvm.Cond.methodLinkNest "ChordGrammars$Tree" (108 : Nat) ({ cls := "ChordGrammars$Chart", name := "rankTwoOf", desc := "(J)I" } : Jvm.MethodName) "ChordGrammars") ∈ wN := kN (i := 655) (by decide +kernel) rfl
theorem k_656 : (Jvm.Cond.static ({ cls := "ChordGrammars$Chart", name := "rankTwoOf", desc := "(J)I" } : Jvm.MethodName)) ∈ wA := kA (i := 656) (by decide +kernel) rfl
theorem k_657 : (Jvm.Cond.code ({ cls := "ChordGrammars$Chart", name := "rankTwoOf", desc := "(J)I" } : Jvm.MethodName) prog_2_method_23_code (2 : Nat) (Option.some Jvm.ClassFile.FieldType.int)) ∈ wA := kA (i := 657) (by decide +kernel) rfl
theorem k_658 : (Jvm.Cond.methodLink "ChordGrammarsLaw" (76 : Nat) ({ cls := "ChordGrammars", name := "nodes", desc := "(I)I" } : Jvm.MethodName)) ∈ wA := kA (i := 658) (by decide +kernel) rfl
theorem k_659 : (Jvm.Cond.instanceMethod ({ cls := "ChordGrammars", name := "nodes", desc := "(I)I" } : Jvm.MethodName)) ∈ wA := kA (i := 659) (by decide +kernel) rfl
theorem k_660 : (Jvm.Cond.selects "ChordGrammars" ({ cls := "ChordGrammars", name := "nodes", desc := "(I)I" } : Jvm.MethodName) ({ cls := "ChordGrammars", name := "nodes", desc := "(I)I" } : Jvm.MethodName)) ∈ wA := kA (i := 660) (by decide +kernel) rfl
theorem k_661 : (Jvm.Cond.code ({ cls := "ChordGrammars", name := "nodes", desc := "(I)I" } : Jvm.MethodName) prog_1_method_14_code (2 : Nat) (Option.some Jvm.ClassFile.FieldType.int)) ∈ wA := kA (i := 661) (by decide +kernel) rfl
theorem k_662 : (Jvm.Cond.methodLink "ChordGrammarsLaw" (80 : Nat) ({ cls := "ChordGrammars", name := "chord", desc := "(II)I" } : Jvm.MethodName)) ∈ wA := kA (i := 662) (by decide +kernel) rfl
theorem k_663 : (Jvm.Cond.instanceMethod ({ cls := "ChordGrammars", name := "chord", desc := "(II)I" } : Jvm.MethodName)) ∈ wA := kA (i := 663) (by decide +kernel) rfl
theorem k_664 : (Jvm.Cond.selects "ChordGrammars" ({ cls := "ChordGrammars", name := "chord", desc := "(II)I" } : Jvm.MethodName) ({ cls := "ChordGrammars", name := "chord", desc := "(II)I" } : Jvm.MethodName)) ∈ wA := kA (i := 664) (by decide +kernel) rfl
theorem k_665 : (Jvm.Cond.code ({ cls := "ChordGrammars", name := "chord", desc := "(II)I" } : Jvm.MethodName) prog_1_method_15_code (3 : Nat) (Option.some Jvm.ClassFile.FieldType.int)) ∈ wA := kA (i := 665) (by decide +kernel) rfl
theorem kn_666 : (Jvm.Cond.methodLinkNest "ChordGrammars" (158 : Nat) ({ cls := "ChordGrammars$Chart", name := "hasSlot", desc := "(I)Z" } : Jvm.MethodName) "ChordGrammars") ∈ wN := kN (i := 666) (by decide +kernel) rfl
theorem k_668 : (Jvm.Cond.instanceMethod ({ cls := "ChordGrammars$Chart", name := "hasSlot", desc := "(I)Z" } : Jvm.MethodName)) ∈ wA := kA (i := 668) (by decide +kernel) rfl
theorem k_669 : (Jvm.Cond.code ({ cls := "ChordGrammars$Chart", name := "hasSlot", desc := "(I)Z" } : Jvm.MethodName) prog_2_method_12_code (2 : Nat) (Option.some Jvm.ClassFile.FieldType.boolean)) ∈ wA := kA (i := 669) (by decide +kernel) rfl
theorem k_670 : (Jvm.Cond.methodLink "ChordGrammarsLaw" (85 : Nat) ({ cls := "ChordGrammars", name := "cadence", desc := "(I)I" } : Jvm.MethodName)) ∈ wA := kA (i := 670) (by decide +kernel) rfl
theorem k_671 : (Jvm.Cond.instanceMethod ({ cls := "ChordGrammars", name := "cadence", desc := "(I)I" } : Jvm.MethodName)) ∈ wA := kA (i := 671) (by decide +kernel) rfl
theorem k_672 : (Jvm.Cond.selects "ChordGrammars" ({ cls := "ChordGrammars", name := "cadence", desc := "(I)I" } : Jvm.MethodName) ({ cls := "ChordGrammars", name := "cadence", desc := "(I)I" } : Jvm.MethodName)) ∈ wA := kA (i := 672) (by decide +kernel) rfl
theorem k_673 : (Jvm.Cond.code ({ cls := "ChordGrammars", name := "cadence", desc := "(I)I" } : Jvm.MethodName) prog_1_method_16_code (2 : Nat) (Option.some Jvm.ClassFile.FieldType.int)) ∈ wA := kA (i := 673) (by decide +kernel) rfl
theorem kn_674 : (Jvm.Cond.methodLinkNest "ChordGrammars" (166 : Nat) ({ cls := "ChordGrammars$Tree", name := "degreeAt", desc := "(I)I" } : Jvm.MethodName) "ChordGrammars") ∈ wN := kN (i := 674) (by decide +kernel) rfl
theorem k_676 : (Jvm.Cond.instanceMethod ({ cls := "ChordGrammars$Tree", name := "degreeAt", desc := "(I)I" } : Jvm.MethodName)) ∈ wA := kA (i := 676) (by decide +kernel) rfl
theorem k_677 : (Jvm.Cond.code ({ cls := "ChordGrammars$Tree", name := "degreeAt", desc := "(I)I" } : Jvm.MethodName) prog_10_method_6_code (2 : Nat) (Option.some Jvm.ClassFile.FieldType.int)) ∈ wA := kA (i := 677) (by decide +kernel) rfl
theorem k_678 : (Jvm.Cond.methodLink "ChordGrammars" (169 : Nat) ({ cls := "ChordGrammars", name := "ending", desc := "(II)I" } : Jvm.MethodName)) ∈ wA := kA (i := 678) (by decide +kernel) rfl
theorem k_679 : (Jvm.Cond.static ({ cls := "ChordGrammars", name := "ending", desc := "(II)I" } : Jvm.MethodName)) ∈ wA := kA (i := 679) (by decide +kernel) rfl
theorem k_680 : (Jvm.Cond.code ({ cls := "ChordGrammars", name := "ending", desc := "(II)I" } : Jvm.MethodName) prog_1_method_23_code (2 : Nat) (Option.some Jvm.ClassFile.FieldType.int)) ∈ wA := kA (i := 680) (by decide +kernel) rfl
theorem k_681 : (Jvm.Cond.methodLink "ChordGrammarsLaw" (89 : Nat) ({ cls := "ChordGrammars", name := "melody", desc := "(II)I" } : Jvm.MethodName)) ∈ wA := kA (i := 681) (by decide +kernel) rfl
theorem k_682 : (Jvm.Cond.instanceMethod ({ cls := "ChordGrammars", name := "melody", desc := "(II)I" } : Jvm.MethodName)) ∈ wA := kA (i := 682) (by decide +kernel) rfl
theorem k_683 : (Jvm.Cond.selects "ChordGrammars" ({ cls := "ChordGrammars", name := "melody", desc := "(II)I" } : Jvm.MethodName) ({ cls := "ChordGrammars", name := "melody", desc := "(II)I" } : Jvm.MethodName)) ∈ wA := kA (i := 683) (by decide +kernel) rfl
theorem k_684 : (Jvm.Cond.code ({ cls := "ChordGrammars", name := "melody", desc := "(II)I" } : Jvm.MethodName) prog_1_method_17_code (5 : Nat) (Option.some Jvm.ClassFile.FieldType.int)) ∈ wA := kA (i := 684) (by decide +kernel) rfl
theorem kn_685 : (Jvm.Cond.methodLinkNest "ChordGrammars" (172 : Nat) ({ cls := "ChordGrammars$Chart", name := "pitchAt", desc := "(I)I" } : Jvm.MethodName) "ChordGrammars") ∈ wN := kN (i := 685) (by decide +kernel) rfl
theorem k_687 : (Jvm.Cond.instanceMethod ({ cls := "ChordGrammars$Chart", name := "pitchAt", desc := "(I)I" } : Jvm.MethodName)) ∈ wA := kA (i := 687) (by decide +kernel) rfl
theorem k_688 : (Jvm.Cond.code ({ cls := "ChordGrammars$Chart", name := "pitchAt", desc := "(I)I" } : Jvm.MethodName) prog_2_method_11_code (2 : Nat) (Option.some Jvm.ClassFile.FieldType.int)) ∈ wA := kA (i := 688) (by decide +kernel) rfl
theorem k_689 : (Jvm.Cond.methodLink "ChordGrammars$Chart" (127 : Nat) ({ cls := "ChordGrammars$Chart", name := "hasSlot", desc := "(I)Z" } : Jvm.MethodName)) ∈ wA := kA (i := 689) (by decide +kernel) rfl
theorem k_690 : (Jvm.Cond.methodLink "ChordGrammars" (175 : Nat) ({ cls := "ChordGrammars", name := "chord", desc := "(II)I" } : Jvm.MethodName)) ∈ wA := kA (i := 690) (by decide +kernel) rfl
theorem k_691 : (Jvm.Cond.methodLink "ChordGrammars" (178 : Nat) ({ cls := "ChordGrammars", name := "chordSet", desc := "(II)I" } : Jvm.MethodName)) ∈ wA := kA (i := 691) (by decide +kernel) rfl
theorem k_692 : (Jvm.Cond.methodLink "ChordGrammars" (181 : Nat) ({ cls := "ChordGrammars", name := "strangerNote", desc := "(III)I" } : Jvm.MethodName)) ∈ wA := kA (i := 692) (by decide +kernel) rfl
theorem k_693 : (Jvm.Cond.static ({ cls := "ChordGrammars", name := "strangerNote", desc := "(III)I" } : Jvm.MethodName)) ∈ wA := kA (i := 693) (by decide +kernel) rfl
theorem k_694 : (Jvm.Cond.code ({ cls := "ChordGrammars", name := "strangerNote", desc := "(III)I" } : Jvm.MethodName) prog_1_method_24_code (6 : Nat) (Option.some Jvm.ClassFile.FieldType.int)) ∈ wA := kA (i := 694) (by decide +kernel) rfl
theorem k_695 : (Jvm.Cond.methodLink "ChordGrammars" (202 : Nat) ({ cls := "ChordGrammars", name := "isStep", desc := "(I)Z" } : Jvm.MethodName)) ∈ wA := kA (i := 695) (by decide +kernel) rfl
theorem k_696 : (Jvm.Cond.static ({ cls := "ChordGrammars", name := "isStep", desc := "(I)Z" } : Jvm.MethodName)) ∈ wA := kA (i := 696) (by decide +kernel) rfl
theorem k_697 : (Jvm.Cond.code ({ cls := "ChordGrammars", name := "isStep", desc := "(I)Z" } : Jvm.MethodName) prog_1_method_25_code (1 : Nat) (Option.some Jvm.ClassFile.FieldType.boolean)) ∈ wA := kA (i := 697) (by decide +kernel) rfl
theorem k_698 : (Jvm.Cond.methodLink "ChordGrammars" (205 : Nat) ({ cls := "ChordGrammars", name := "isLeap", desc := "(I)Z" } : Jvm.MethodName)) ∈ wA := kA (i := 698) (by decide +kernel) rfl
theorem k_699 : (Jvm.Cond.static ({ cls := "ChordGrammars", name := "isLeap", desc := "(I)Z" } : Jvm.MethodName)) ∈ wA := kA (i := 699) (by decide +kernel) rfl
theorem k_700 : (Jvm.Cond.code ({ cls := "ChordGrammars", name := "isLeap", desc := "(I)Z" } : Jvm.MethodName) prog_1_method_26_code (1 : Nat) (Option.some Jvm.ClassFile.FieldType.boolean)) ∈ wA := kA (i := 700) (by decide +kernel) rfl
theorem k_701 : (Jvm.Cond.methodLink "ChordGrammarsLaw" (102 : Nat) ({ cls := "ChordGrammars", name := "told", desc := "(I)I" } : Jvm.MethodName)) ∈ wA := kA (i := 701) (by decide +kernel) rfl
theorem k_702 : (Jvm.Cond.instanceMethod ({ cls := "ChordGrammars", name := "told", desc := "(I)I" } : Jvm.MethodName)) ∈ wA := kA (i := 702) (by decide +kernel) rfl
theorem k_703 : (Jvm.Cond.selects "ChordGrammars" ({ cls := "ChordGrammars", name := "told", desc := "(I)I" } : Jvm.MethodName) ({ cls := "ChordGrammars", name := "told", desc := "(I)I" } : Jvm.MethodName)) ∈ wA := kA (i := 703) (by decide +kernel) rfl
theorem k_704 : (Jvm.Cond.code ({ cls := "ChordGrammars", name := "told", desc := "(I)I" } : Jvm.MethodName) prog_1_method_19_code (2 : Nat) (Option.some Jvm.ClassFile.FieldType.int)) ∈ wA := kA (i := 704) (by decide +kernel) rfl
theorem k_705 : (Jvm.Cond.methodLink "ChordGrammarsLaw" (93 : Nat) ({ cls := "ChordGrammarsLaw", name := "cell", desc := "(LChordGrammars;III[J)I" } : Jvm.MethodName)) ∈ wA := kA (i := 705) (by decide +kernel) rfl
theorem k_706 : (Jvm.Cond.static ({ cls := "ChordGrammarsLaw", name := "cell", desc := "(LChordGrammars;III[J)I" } : Jvm.MethodName)) ∈ wA := kA (i := 706) (by decide +kernel) rfl
theorem k_708 : (Jvm.Cond.classLink "ChordGrammarsLaw" (13 : Nat) "java/lang/ArrayIndexOutOfBoundsException") ∈ wA := kA (i := 708) (by decide +kernel) rfl
theorem k_709 : (Jvm.Cond.methodLink "ChordGrammarsLaw" (7 : Nat) ({ cls := "ChordGrammars", name := "cell", desc := "(III)J" } : Jvm.MethodName)) ∈ wA := kA (i := 709) (by decide +kernel) rfl
theorem k_710 : (Jvm.Cond.instanceMethod ({ cls := "ChordGrammars", name := "cell", desc := "(III)J" } : Jvm.MethodName)) ∈ wA := kA (i := 710) (by decide +kernel) rfl
theorem k_711 : (Jvm.Cond.selects "ChordGrammars" ({ cls := "ChordGrammars", name := "cell", desc := "(III)J" } : Jvm.MethodName) ({ cls := "ChordGrammars", name := "cell", desc := "(III)J" } : Jvm.MethodName)) ∈ wA := kA (i := 711) (by decide +kernel) rfl
theorem k_712 : (Jvm.Cond.code ({ cls := "ChordGrammars", name := "cell", desc := "(III)J" } : Jvm.MethodName) prog_1_method_18_code (4 : Nat) (Option.some Jvm.ClassFile.FieldType.long)) ∈ wA := kA (i := 712) (by decide +kernel) rfl
theorem k_713 : (Jvm.Cond.classLink "ChordGrammars" (184 : Nat) "java/lang/ArrayIndexOutOfBoundsException") ∈ wA := kA (i := 713) (by decide +kernel) rfl
theorem k_714 : (Jvm.Cond.instantiable "java/lang/ArrayIndexOutOfBoundsException" (6 : Nat)) ∈ wA := kA (i := 714) (by decide +kernel) rfl
theorem k_724 : (Jvm.Cond.selects "java/lang/ArrayIndexOutOfBoundsException" ({ cls := "java/lang/Throwable", name := "fillInStackTrace", desc := "(I)Ljava/lang/Throwable;" } : Jvm.MethodName) ({ cls := "java/lang/Throwable", name := "fillInStackTrace", desc := "(I)Ljava/lang/Throwable;" } : Jvm.MethodName)) ∈ wA := kA (i := 724) (by decide +kernel) rfl
theorem k_725 : (Jvm.Cond.selects "java/lang/ArrayIndexOutOfBoundsException" ({ cls := "java/lang/Throwable", name := "fillInStackTrace", desc := "()Ljava/lang/Throwable;" } : Jvm.MethodName) ({ cls := "java/lang/Throwable", name := "fillInStackTrace", desc := "()Ljava/lang/Throwable;" } : Jvm.MethodName)) ∈ wA := kA (i := 725) (by decide +kernel) rfl
theorem k_736 : (Jvm.Cond.fieldLink "java/lang/Throwable" (198 : Nat) "java/lang/Throwable" "backtrace" "Ljava/lang/Object;") ∈ wA := kA (i := 736) (by decide +kernel) rfl
theorem k_738 : (Jvm.Cond.instanceMethod ({ cls := "java/lang/Throwable", name := "<init>", desc := "()V" } : Jvm.MethodName)) ∈ wA := kA (i := 738) (by decide +kernel) rfl
theorem k_739 : (Jvm.Cond.code ({ cls := "java/lang/Throwable", name := "<init>", desc := "()V" } : Jvm.MethodName) prog_24_method_1_code (1 : Nat) (Option.none : Option Jvm.ClassFile.FieldType)) ∈ wA := kA (i := 739) (by decide +kernel) rfl
theorem k_740 : (Jvm.Cond.methodLink "java/lang/Throwable" (1 : Nat) ({ cls := "java/lang/Object", name := "<init>", desc := "()V" } : Jvm.MethodName)) ∈ wA := kA (i := 740) (by decide +kernel) rfl
theorem k_741 : (Jvm.Cond.fieldLink "java/lang/Throwable" (13 : Nat) "java/lang/Throwable" "UNASSIGNED_STACK" "[Ljava/lang/StackTraceElement;") ∈ wA := kA (i := 741) (by decide +kernel) rfl
theorem k_743 : (Jvm.Cond.fieldLink "java/lang/Throwable" (20 : Nat) "java/lang/Throwable" "SUPPRESSED_SENTINEL" "Ljava/util/List;") ∈ wA := kA (i := 743) (by decide +kernel) rfl
theorem k_745 : (Jvm.Cond.methodLink "java/lang/Throwable" (27 : Nat) ({ cls := "java/lang/Throwable", name := "fillInStackTrace", desc := "()Ljava/lang/Throwable;" } : Jvm.MethodName)) ∈ wA := kA (i := 745) (by decide +kernel) rfl
theorem k_746 : (Jvm.Cond.instanceMethod ({ cls := "java/lang/Throwable", name := "fillInStackTrace", desc := "()Ljava/lang/Throwable;" } : Jvm.MethodName)) ∈ wA := kA (i := 746) (by decide +kernel) rfl
theorem k_749 : (Jvm.Cond.methodLink "java/lang/Throwable" (202 : Nat) ({ cls := "java/lang/Throwable", name := "fillInStackTrace", desc := "(I)Ljava/lang/Throwable;" } : Jvm.MethodName)) ∈ wA := kA (i := 749) (by decide +kernel) rfl
theorem k_751 : (Jvm.Cond.instanceMethod ({ cls := "java/lang/Throwable", name := "fillInStackTrace", desc := "(I)Ljava/lang/Throwable;" } : Jvm.MethodName)) ∈ wA := kA (i := 751) (by decide +kernel) rfl
theorem k_752 : (Jvm.Cond.instantiable "java/lang/Throwable" (6 : Nat)) ∈ wA := kA (i := 752) (by decide +kernel) rfl
theorem k_753 : (Jvm.Cond.native ({ cls := "java/lang/Throwable", name := "fillInStackTrace", desc := "(I)Ljava/lang/Throwable;" } : Jvm.MethodName)) ∈ wA := kA (i := 753) (by decide +kernel) rfl
theorem k_755 : (Jvm.Cond.methodLink "ChordGrammars" (188 : Nat) ({ cls := "java/lang/ArrayIndexOutOfBoundsException", name := "<init>", desc := "(Ljava/lang/String;)V" } : Jvm.MethodName)) ∈ wA := kA (i := 755) (by decide +kernel) rfl
theorem k_756 : (Jvm.Cond.instanceMethod ({ cls := "java/lang/ArrayIndexOutOfBoundsException", name := "<init>", desc := "(Ljava/lang/String;)V" } : Jvm.MethodName)) ∈ wA := kA (i := 756) (by decide +kernel) rfl
theorem k_757 : (Jvm.Cond.code ({ cls := "java/lang/ArrayIndexOutOfBoundsException", name := "<init>", desc := "(Ljava/lang/String;)V" } : Jvm.MethodName) prog_13_method_2_code (2 : Nat) (Option.none : Option Jvm.ClassFile.FieldType)) ∈ wA := kA (i := 757) (by decide +kernel) rfl
theorem k_758 : (Jvm.Cond.methodLink "java/lang/ArrayIndexOutOfBoundsException" (7 : Nat) ({ cls := "java/lang/IndexOutOfBoundsException", name := "<init>", desc := "(Ljava/lang/String;)V" } : Jvm.MethodName)) ∈ wA := kA (i := 758) (by decide +kernel) rfl
theorem k_759 : (Jvm.Cond.instanceMethod ({ cls := "java/lang/IndexOutOfBoundsException", name := "<init>", desc := "(Ljava/lang/String;)V" } : Jvm.MethodName)) ∈ wA := kA (i := 759) (by decide +kernel) rfl
theorem k_760 : (Jvm.Cond.code ({ cls := "java/lang/IndexOutOfBoundsException", name := "<init>", desc := "(Ljava/lang/String;)V" } : Jvm.MethodName) prog_16_method_2_code (2 : Nat) (Option.none : Option Jvm.ClassFile.FieldType)) ∈ wA := kA (i := 760) (by decide +kernel) rfl
theorem k_761 : (Jvm.Cond.methodLink "java/lang/IndexOutOfBoundsException" (7 : Nat) ({ cls := "java/lang/RuntimeException", name := "<init>", desc := "(Ljava/lang/String;)V" } : Jvm.MethodName)) ∈ wA := kA (i := 761) (by decide +kernel) rfl
theorem k_762 : (Jvm.Cond.instanceMethod ({ cls := "java/lang/RuntimeException", name := "<init>", desc := "(Ljava/lang/String;)V" } : Jvm.MethodName)) ∈ wA := kA (i := 762) (by decide +kernel) rfl
theorem k_763 : (Jvm.Cond.code ({ cls := "java/lang/RuntimeException", name := "<init>", desc := "(Ljava/lang/String;)V" } : Jvm.MethodName) prog_19_method_2_code (2 : Nat) (Option.none : Option Jvm.ClassFile.FieldType)) ∈ wA := kA (i := 763) (by decide +kernel) rfl
theorem k_764 : (Jvm.Cond.methodLink "java/lang/RuntimeException" (7 : Nat) ({ cls := "java/lang/Exception", name := "<init>", desc := "(Ljava/lang/String;)V" } : Jvm.MethodName)) ∈ wA := kA (i := 764) (by decide +kernel) rfl
theorem k_765 : (Jvm.Cond.instanceMethod ({ cls := "java/lang/Exception", name := "<init>", desc := "(Ljava/lang/String;)V" } : Jvm.MethodName)) ∈ wA := kA (i := 765) (by decide +kernel) rfl
theorem k_766 : (Jvm.Cond.code ({ cls := "java/lang/Exception", name := "<init>", desc := "(Ljava/lang/String;)V" } : Jvm.MethodName) prog_15_method_2_code (2 : Nat) (Option.none : Option Jvm.ClassFile.FieldType)) ∈ wA := kA (i := 766) (by decide +kernel) rfl
theorem k_767 : (Jvm.Cond.methodLink "java/lang/Exception" (7 : Nat) ({ cls := "java/lang/Throwable", name := "<init>", desc := "(Ljava/lang/String;)V" } : Jvm.MethodName)) ∈ wA := kA (i := 767) (by decide +kernel) rfl
theorem k_768 : (Jvm.Cond.instanceMethod ({ cls := "java/lang/Throwable", name := "<init>", desc := "(Ljava/lang/String;)V" } : Jvm.MethodName)) ∈ wA := kA (i := 768) (by decide +kernel) rfl
theorem k_769 : (Jvm.Cond.code ({ cls := "java/lang/Throwable", name := "<init>", desc := "(Ljava/lang/String;)V" } : Jvm.MethodName) prog_24_method_2_code (2 : Nat) (Option.none : Option Jvm.ClassFile.FieldType)) ∈ wA := kA (i := 769) (by decide +kernel) rfl
theorem k_771 : (Jvm.Cond.fieldLink "java/lang/Throwable" (31 : Nat) "java/lang/Throwable" "detailMessage" "Ljava/lang/String;") ∈ wA := kA (i := 771) (by decide +kernel) rfl
theorem k_772 : (Jvm.Cond.fieldLink "java/lang/Throwable" (7 : Nat) "java/lang/Throwable" "cause" "Ljava/lang/Throwable;") ∈ wA := kA (i := 772) (by decide +kernel) rfl
theorem k_773 : (Jvm.Cond.fieldLink "java/lang/Throwable" (17 : Nat) "java/lang/Throwable" "stackTrace" "[Ljava/lang/StackTraceElement;") ∈ wA := kA (i := 773) (by decide +kernel) rfl
theorem k_774 : (Jvm.Cond.fieldLink "java/lang/Throwable" (24 : Nat) "java/lang/Throwable" "suppressedExceptions" "Ljava/util/List;") ∈ wA := kA (i := 774) (by decide +kernel) rfl
theorem kn_783 : (Jvm.Cond.methodLinkNest "ChordGrammars" (191 : Nat) ({ cls := "ChordGrammars$Chart", name := "countOf", desc := "(III)J" } : Jvm.MethodName) "ChordGrammars") ∈ wN := kN (i := 783) (by decide +kernel) rfl
theorem k_784 : (Jvm.Cond.classLink "ChordGrammarsLaw" (16 : Nat) "ChordGrammarsModel") ∈ wA := kA (i := 784) (by decide +kernel) rfl
theorem k_785 : (Jvm.Cond.instantiable "ChordGrammarsModel" (48 : Nat)) ∈ wA := kA (i := 785) (by decide +kernel) rfl
theorem k_786 : (Jvm.Cond.methodLink "ChordGrammarsLaw" (18 : Nat) ({ cls := "ChordGrammarsModel", name := "<init>", desc := "()V" } : Jvm.MethodName)) ∈ wA := kA (i := 786) (by decide +kernel) rfl
theorem k_787 : (Jvm.Cond.instanceMethod ({ cls := "ChordGrammarsModel", name := "<init>", desc := "()V" } : Jvm.MethodName)) ∈ wA := kA (i := 787) (by decide +kernel) rfl
theorem k_788 : (Jvm.Cond.code ({ cls := "ChordGrammarsModel", name := "<init>", desc := "()V" } : Jvm.MethodName) prog_12_method_1_code (1 : Nat) (Option.none : Option Jvm.ClassFile.FieldType)) ∈ wA := kA (i := 788) (by decide +kernel) rfl
theorem k_789 : (Jvm.Cond.methodLink "ChordGrammarsModel" (1 : Nat) ({ cls := "java/lang/Object", name := "<init>", desc := "()V" } : Jvm.MethodName)) ∈ wA := kA (i := 789) (by decide +kernel) rfl
theorem k_790 : (Jvm.Cond.constant "ChordGrammarsModel" (84 : Nat) (234000 : Int32)) ∈ wA := kA (i := 790) (by decide +kernel) rfl
theorem k_791 : (Jvm.Cond.fieldLink "ChordGrammarsModel" (106 : Nat) "ChordGrammarsModel" "thrown" "I") ∈ wA := kA (i := 791) (by decide +kernel) rfl
theorem k_792 : (Jvm.Cond.fieldLink "ChordGrammarsModel" (110 : Nat) "ChordGrammarsModel" "tonic" "I") ∈ wA := kA (i := 792) (by decide +kernel) rfl
theorem k_793 : (Jvm.Cond.fieldLink "ChordGrammarsModel" (113 : Nat) "ChordGrammarsModel" "minor" "Z") ∈ wA := kA (i := 793) (by decide +kernel) rfl
theorem k_794 : (Jvm.Cond.fieldLink "ChordGrammarsModel" (7 : Nat) "ChordGrammarsModel" "costs" "[I") ∈ wA := kA (i := 794) (by decide +kernel) rfl
theorem k_795 : (Jvm.Cond.fieldLink "ChordGrammarsModel" (13 : Nat) "ChordGrammarsModel" "draft" "[I") ∈ wA := kA (i := 795) (by decide +kernel) rfl
theorem k_796 : (Jvm.Cond.fieldLink "ChordGrammarsModel" (117 : Nat) "ChordGrammarsModel" "drafted" "I") ∈ wA := kA (i := 796) (by decide +kernel) rfl
theorem k_797 : (Jvm.Cond.fieldLink "ChordGrammarsModel" (175 : Nat) "ChordGrammarsModel" "slots" "I") ∈ wA := kA (i := 797) (by decide +kernel) rfl
theorem k_798 : (Jvm.Cond.fieldLink "ChordGrammarsModel" (16 : Nat) "ChordGrammarsModel" "sets" "[I") ∈ wA := kA (i := 798) (by decide +kernel) rfl
theorem k_799 : (Jvm.Cond.fieldLink "ChordGrammarsModel" (19 : Nat) "ChordGrammarsModel" "basses" "[I") ∈ wA := kA (i := 799) (by decide +kernel) rfl
theorem k_800 : (Jvm.Cond.fieldLink "ChordGrammarsModel" (22 : Nat) "ChordGrammarsModel" "melodies" "[I") ∈ wA := kA (i := 800) (by decide +kernel) rfl
theorem k_801 : (Jvm.Cond.fieldLink "ChordGrammarsModel" (172 : Nat) "ChordGrammarsModel" "rules" "I") ∈ wA := kA (i := 801) (by decide +kernel) rfl
theorem k_802 : (Jvm.Cond.fieldLink "ChordGrammarsModel" (25 : Nat) "ChordGrammarsModel" "left" "[I") ∈ wA := kA (i := 802) (by decide +kernel) rfl
theorem k_803 : (Jvm.Cond.fieldLink "ChordGrammarsModel" (28 : Nat) "ChordGrammarsModel" "first" "[I") ∈ wA := kA (i := 803) (by decide +kernel) rfl
theorem k_804 : (Jvm.Cond.fieldLink "ChordGrammarsModel" (31 : Nat) "ChordGrammarsModel" "second" "[I") ∈ wA := kA (i := 804) (by decide +kernel) rfl
theorem k_805 : (Jvm.Cond.fieldLink "ChordGrammarsModel" (34 : Nat) "ChordGrammarsModel" "ruleCost" "[I") ∈ wA := kA (i := 805) (by decide +kernel) rfl
theorem k_806 : (Jvm.Cond.fieldLink "ChordGrammarsModel" (147 : Nat) "ChordGrammarsModel" "newRules" "I") ∈ wA := kA (i := 806) (by decide +kernel) rfl
theorem k_807 : (Jvm.Cond.fieldLink "ChordGrammarsModel" (37 : Nat) "ChordGrammarsModel" "newLeft" "[I") ∈ wA := kA (i := 807) (by decide +kernel) rfl
theorem k_808 : (Jvm.Cond.fieldLink "ChordGrammarsModel" (40 : Nat) "ChordGrammarsModel" "newFirst" "[I") ∈ wA := kA (i := 808) (by decide +kernel) rfl
theorem k_809 : (Jvm.Cond.fieldLink "ChordGrammarsModel" (43 : Nat) "ChordGrammarsModel" "newSecond" "[I") ∈ wA := kA (i := 809) (by decide +kernel) rfl
theorem k_810 : (Jvm.Cond.fieldLink "ChordGrammarsModel" (46 : Nat) "ChordGrammarsModel" "newCost" "[I") ∈ wA := kA (i := 810) (by decide +kernel) rfl
theorem k_811 : (Jvm.Cond.fieldLink "ChordGrammarsModel" (49 : Nat) "ChordGrammarsModel" "newPlace" "[I") ∈ wA := kA (i := 811) (by decide +kernel) rfl
theorem k_812 : (Jvm.Cond.fieldLink "ChordGrammarsModel" (122 : Nat) "ChordGrammarsModel" "place" "I") ∈ wA := kA (i := 812) (by decide +kernel) rfl
theorem k_813 : (Jvm.Cond.fieldLink "ChordGrammarsModel" (129 : Nat) "ChordGrammarsModel" "fault" "I") ∈ wA := kA (i := 813) (by decide +kernel) rfl
theorem k_814 : (Jvm.Cond.fieldLink "ChordGrammarsModel" (52 : Nat) "ChordGrammarsModel" "leads" "[Z") ∈ wA := kA (i := 814) (by decide +kernel) rfl
theorem k_815 : (Jvm.Cond.fieldLink "ChordGrammarsModel" (192 : Nat) "ChordGrammarsModel" "n" "I") ∈ wA := kA (i := 815) (by decide +kernel) rfl
theorem k_816 : (Jvm.Cond.fieldLink "ChordGrammarsModel" (216 : Nat) "ChordGrammarsModel" "parsedRules" "I") ∈ wA := kA (i := 816) (by decide +kernel) rfl
theorem k_817 : (Jvm.Cond.fieldLink "ChordGrammarsModel" (56 : Nat) "ChordGrammarsModel" "pLeft" "[I") ∈ wA := kA (i := 817) (by decide +kernel) rfl
theorem k_818 : (Jvm.Cond.fieldLink "ChordGrammarsModel" (59 : Nat) "ChordGrammarsModel" "pFirst" "[I") ∈ wA := kA (i := 818) (by decide +kernel) rfl
theorem k_819 : (Jvm.Cond.fieldLink "ChordGrammarsModel" (62 : Nat) "ChordGrammarsModel" "pSecond" "[I") ∈ wA := kA (i := 819) (by decide +kernel) rfl
theorem k_820 : (Jvm.Cond.fieldLink "ChordGrammarsModel" (65 : Nat) "ChordGrammarsModel" "pCost" "[I") ∈ wA := kA (i := 820) (by decide +kernel) rfl
theorem k_821 : (Jvm.Cond.fieldLink "ChordGrammarsModel" (68 : Nat) "ChordGrammarsModel" "pMelody" "[I") ∈ wA := kA (i := 821) (by decide +kernel) rfl
theorem k_822 : (Jvm.Cond.fieldLink "ChordGrammarsModel" (71 : Nat) "ChordGrammarsModel" "symbolChord" "[I") ∈ wA := kA (i := 822) (by decide +kernel) rfl
theorem k_823 : (Jvm.Cond.fieldLink "ChordGrammarsModel" (74 : Nat) "ChordGrammarsModel" "symbolCost" "[I") ∈ wA := kA (i := 823) (by decide +kernel) rfl
theorem k_824 : (Jvm.Cond.fieldLink "ChordGrammarsModel" (77 : Nat) "ChordGrammarsModel" "sizes" "[I") ∈ wA := kA (i := 824) (by decide +kernel) rfl
theorem k_825 : (Jvm.Cond.fieldLink "ChordGrammarsModel" (80 : Nat) "ChordGrammarsModel" "counts" "[J") ∈ wA := kA (i := 825) (by decide +kernel) rfl
theorem k_826 : (Jvm.Cond.fieldLink "ChordGrammarsModel" (85 : Nat) "ChordGrammarsModel" "listCost" "[I") ∈ wA := kA (i := 826) (by decide +kernel) rfl
theorem k_827 : (Jvm.Cond.fieldLink "ChordGrammarsModel" (88 : Nat) "ChordGrammarsModel" "listKey" "[I") ∈ wA := kA (i := 827) (by decide +kernel) rfl
theorem k_828 : (Jvm.Cond.fieldLink "ChordGrammarsModel" (91 : Nat) "ChordGrammarsModel" "turn" "[I") ∈ wA := kA (i := 828) (by decide +kernel) rfl
theorem k_829 : (Jvm.Cond.fieldLink "ChordGrammarsModel" (219 : Nat) "ChordGrammarsModel" "parsed" "Z") ∈ wA := kA (i := 829) (by decide +kernel) rfl
theorem k_830 : (Jvm.Cond.fieldLink "ChordGrammarsModel" (94 : Nat) "ChordGrammarsModel" "toItem" "[I") ∈ wA := kA (i := 830) (by decide +kernel) rfl
theorem k_831 : (Jvm.Cond.fieldLink "ChordGrammarsModel" (97 : Nat) "ChordGrammarsModel" "toFrom" "[I") ∈ wA := kA (i := 831) (by decide +kernel) rfl
theorem k_832 : (Jvm.Cond.fieldLink "ChordGrammarsModel" (100 : Nat) "ChordGrammarsModel" "toLast" "[I") ∈ wA := kA (i := 832) (by decide +kernel) rfl
theorem k_833 : (Jvm.Cond.fieldLink "ChordGrammarsModel" (103 : Nat) "ChordGrammarsModel" "toRank" "[I") ∈ wA := kA (i := 833) (by decide +kernel) rfl
theorem k_834 : (Jvm.Cond.fieldLink "ChordGrammarsModel" (247 : Nat) "ChordGrammarsModel" "waiting" "I") ∈ wA := kA (i := 834) (by decide +kernel) rfl
theorem k_835 : (Jvm.Cond.fieldLink "ChordGrammarsModel" (253 : Nat) "ChordGrammarsModel" "nodeItem" "I") ∈ wA := kA (i := 835) (by decide +kernel) rfl
theorem k_836 : (Jvm.Cond.fieldLink "ChordGrammarsModel" (256 : Nat) "ChordGrammarsModel" "nodeFrom" "I") ∈ wA := kA (i := 836) (by decide +kernel) rfl
theorem k_837 : (Jvm.Cond.fieldLink "ChordGrammarsModel" (259 : Nat) "ChordGrammarsModel" "nodeLast" "I") ∈ wA := kA (i := 837) (by decide +kernel) rfl
theorem k_838 : (Jvm.Cond.fieldLink "ChordGrammarsModel" (262 : Nat) "ChordGrammarsModel" "nodeRule" "I") ∈ wA := kA (i := 838) (by decide +kernel) rfl
theorem k_936 : (Jvm.Cond.arrayClass Jvm.ClassFile.FieldType.boolean) ∈ wA := kA (i := 936) (by decide +kernel) rfl
theorem k_937 : (Jvm.Cond.methodLink "ChordGrammarsLaw" (99 : Nat) ({ cls := "ChordGrammarsModel", name := "thrown", desc := "()I" } : Jvm.MethodName)) ∈ wA := kA (i := 937) (by decide +kernel) rfl
theorem k_938 : (Jvm.Cond.instanceMethod ({ cls := "ChordGrammarsModel", name := "thrown", desc := "()I" } : Jvm.MethodName)) ∈ wA := kA (i := 938) (by decide +kernel) rfl
theorem k_939 : (Jvm.Cond.selects "ChordGrammarsModel" ({ cls := "ChordGrammarsModel", name := "thrown", desc := "()I" } : Jvm.MethodName) ({ cls := "ChordGrammarsModel", name := "thrown", desc := "()I" } : Jvm.MethodName)) ∈ wA := kA (i := 939) (by decide +kernel) rfl
theorem k_940 : (Jvm.Cond.code ({ cls := "ChordGrammarsModel", name := "thrown", desc := "()I" } : Jvm.MethodName) prog_12_method_2_code (1 : Nat) (Option.some Jvm.ClassFile.FieldType.int)) ∈ wA := kA (i := 940) (by decide +kernel) rfl
theorem k_941 : (Jvm.Cond.methodLink "ChordGrammarsLaw" (23 : Nat) ({ cls := "ChordGrammarsModel", name := "key", desc := "(IZ)Z" } : Jvm.MethodName)) ∈ wA := kA (i := 941) (by decide +kernel) rfl
theorem k_942 : (Jvm.Cond.instanceMethod ({ cls := "ChordGrammarsModel", name := "key", desc := "(IZ)Z" } : Jvm.MethodName)) ∈ wA := kA (i := 942) (by decide +kernel) rfl
theorem k_943 : (Jvm.Cond.selects "ChordGrammarsModel" ({ cls := "ChordGrammarsModel", name := "key", desc := "(IZ)Z" } : Jvm.MethodName) ({ cls := "ChordGrammarsModel", name := "key", desc := "(IZ)Z" } : Jvm.MethodName)) ∈ wA := kA (i := 943) (by decide +kernel) rfl
theorem k_944 : (Jvm.Cond.code ({ cls := "ChordGrammarsModel", name := "key", desc := "(IZ)Z" } : Jvm.MethodName) prog_12_method_3_code (3 : Nat) (Option.some Jvm.ClassFile.FieldType.boolean)) ∈ wA := kA (i := 944) (by decide +kernel) rfl
theorem k_945 : (Jvm.Cond.methodLink "ChordGrammarsLaw" (28 : Nat) ({ cls := "ChordGrammarsModel", name := "cost", desc := "(II)Z" } : Jvm.MethodName)) ∈ wA := kA (i := 945) (by decide +kernel) rfl
theorem k_946 : (Jvm.Cond.instanceMethod ({ cls := "ChordGrammarsModel", name := "cost", desc := "(II)Z" } : Jvm.MethodName)) ∈ wA := kA (i := 946) (by decide +kernel) rfl
theorem k_947 : (Jvm.Cond.selects "ChordGrammarsModel" ({ cls := "ChordGrammarsModel", name := "cost", desc := "(II)Z" } : Jvm.MethodName) ({ cls := "ChordGrammarsModel", name := "cost", desc := "(II)Z" } : Jvm.MethodName)) ∈ wA := kA (i := 947) (by decide +kernel) rfl
theorem k_948 : (Jvm.Cond.code ({ cls := "ChordGrammarsModel", name := "cost", desc := "(II)Z" } : Jvm.MethodName) prog_12_method_4_code (3 : Nat) (Option.some Jvm.ClassFile.FieldType.boolean)) ∈ wA := kA (i := 948) (by decide +kernel) rfl
theorem k_949 : (Jvm.Cond.methodLink "ChordGrammarsLaw" (35 : Nat) ({ cls := "ChordGrammarsModel", name := "draft", desc := "(IJ)I" } : Jvm.MethodName)) ∈ wA := kA (i := 949) (by decide +kernel) rfl
theorem k_950 : (Jvm.Cond.instanceMethod ({ cls := "ChordGrammarsModel", name := "draft", desc := "(IJ)I" } : Jvm.MethodName)) ∈ wA := kA (i := 950) (by decide +kernel) rfl
theorem k_951 : (Jvm.Cond.selects "ChordGrammarsModel" ({ cls := "ChordGrammarsModel", name := "draft", desc := "(IJ)I" } : Jvm.MethodName) ({ cls := "ChordGrammarsModel", name := "draft", desc := "(IJ)I" } : Jvm.MethodName)) ∈ wA := kA (i := 951) (by decide +kernel) rfl
theorem k_952 : (Jvm.Cond.code ({ cls := "ChordGrammarsModel", name := "draft", desc := "(IJ)I" } : Jvm.MethodName) prog_12_method_5_code (5 : Nat) (Option.some Jvm.ClassFile.FieldType.int)) ∈ wA := kA (i := 952) (by decide +kernel) rfl
theorem k_953 : (Jvm.Cond.constantLong "ChordGrammarsModel" (120 : Nat) (255 : Int64)) ∈ wA := kA (i := 953) (by decide +kernel) rfl
theorem k_954 : (Jvm.Cond.methodLink "ChordGrammarsLaw" (40 : Nat) ({ cls := "ChordGrammarsModel", name := "grammar", desc := "()I" } : Jvm.MethodName)) ∈ wA := kA (i := 954) (by decide +kernel) rfl
theorem k_955 : (Jvm.Cond.instanceMethod ({ cls := "ChordGrammarsModel", name := "grammar", desc := "()I" } : Jvm.MethodName)) ∈ wA := kA (i := 955) (by decide +kernel) rfl
theorem k_956 : (Jvm.Cond.selects "ChordGrammarsModel" ({ cls := "ChordGrammarsModel", name := "grammar", desc := "()I" } : Jvm.MethodName) ({ cls := "ChordGrammarsModel", name := "grammar", desc := "()I" } : Jvm.MethodName)) ∈ wA := kA (i := 956) (by decide +kernel) rfl
theorem k_957 : (Jvm.Cond.code ({ cls := "ChordGrammarsModel", name := "grammar", desc := "()I" } : Jvm.MethodName) prog_12_method_18_code (2 : Nat) (Option.some Jvm.ClassFile.FieldType.int)) ∈ wA := kA (i := 957) (by decide +kernel) rfl
theorem k_958 : (Jvm.Cond.methodLink "ChordGrammarsModel" (150 : Nat) ({ cls := "ChordGrammarsModel", name := "blanks", desc := "()V" } : Jvm.MethodName)) ∈ wA := kA (i := 958) (by decide +kernel) rfl
theorem k_960 : (Jvm.Cond.instanceMethod ({ cls := "ChordGrammarsModel", name := "blanks", desc := "()V" } : Jvm.MethodName)) ∈ wA := kA (i := 960) (by decide +kernel) rfl
theorem k_961 : (Jvm.Cond.code ({ cls := "ChordGrammarsModel", name := "blanks", desc := "()V" } : Jvm.MethodName) prog_12_method_7_code (1 : Nat) (Option.none : Option Jvm.ClassFile.FieldType)) ∈ wA := kA (i := 961) (by decide +kernel) rfl
theorem k_962 : (Jvm.Cond.methodLink "ChordGrammarsModel" (125 : Nat) ({ cls := "ChordGrammarsModel", name := "here", desc := "()I" } : Jvm.MethodName)) ∈ wA := kA (i := 962) (by decide +kernel) rfl
theorem k_964 : (Jvm.Cond.instanceMethod ({ cls := "ChordGrammarsModel", name := "here", desc := "()I" } : Jvm.MethodName)) ∈ wA := kA (i := 964) (by decide +kernel) rfl
theorem k_965 : (Jvm.Cond.code ({ cls := "ChordGrammarsModel", name := "here", desc := "()I" } : Jvm.MethodName) prog_12_method_6_code (1 : Nat) (Option.some Jvm.ClassFile.FieldType.int)) ∈ wA := kA (i := 965) (by decide +kernel) rfl
theorem k_966 : (Jvm.Cond.methodLink "ChordGrammarsModel" (143 : Nat) ({ cls := "ChordGrammarsModel", name := "stop", desc := "(I)V" } : Jvm.MethodName)) ∈ wA := kA (i := 966) (by decide +kernel) rfl
theorem k_968 : (Jvm.Cond.instanceMethod ({ cls := "ChordGrammarsModel", name := "stop", desc := "(I)V" } : Jvm.MethodName)) ∈ wA := kA (i := 968) (by decide +kernel) rfl
theorem k_969 : (Jvm.Cond.code ({ cls := "ChordGrammarsModel", name := "stop", desc := "(I)V" } : Jvm.MethodName) prog_12_method_8_code (2 : Nat) (Option.none : Option Jvm.ClassFile.FieldType)) ∈ wA := kA (i := 969) (by decide +kernel) rfl
theorem k_970 : (Jvm.Cond.methodLink "ChordGrammarsModel" (166 : Nat) ({ cls := "ChordGrammarsModel", name := "rule", desc := "()V" } : Jvm.MethodName)) ∈ wA := kA (i := 970) (by decide +kernel) rfl
theorem k_972 : (Jvm.Cond.instanceMethod ({ cls := "ChordGrammarsModel", name := "rule", desc := "()V" } : Jvm.MethodName)) ∈ wA := kA (i := 972) (by decide +kernel) rfl
theorem k_973 : (Jvm.Cond.code ({ cls := "ChordGrammarsModel", name := "rule", desc := "()V" } : Jvm.MethodName) prog_12_method_15_code (2 : Nat) (Option.none : Option Jvm.ClassFile.FieldType)) ∈ wA := kA (i := 973) (by decide +kernel) rfl
theorem k_974 : (Jvm.Cond.methodLink "ChordGrammarsModel" (132 : Nat) ({ cls := "ChordGrammarsModel", name := "isName", desc := "(I)Z" } : Jvm.MethodName)) ∈ wA := kA (i := 974) (by decide +kernel) rfl
theorem k_975 : (Jvm.Cond.static ({ cls := "ChordGrammarsModel", name := "isName", desc := "(I)Z" } : Jvm.MethodName)) ∈ wA := kA (i := 975) (by decide +kernel) rfl
theorem k_976 : (Jvm.Cond.code ({ cls := "ChordGrammarsModel", name := "isName", desc := "(I)Z" } : Jvm.MethodName) prog_12_method_9_code (1 : Nat) (Option.some Jvm.ClassFile.FieldType.boolean)) ∈ wA := kA (i := 976) (by decide +kernel) rfl
theorem k_977 : (Jvm.Cond.methodLink "ChordGrammarsModel" (153 : Nat) ({ cls := "ChordGrammarsModel", name := "isItem", desc := "()Z" } : Jvm.MethodName)) ∈ wA := kA (i := 977) (by decide +kernel) rfl
theorem k_979 : (Jvm.Cond.instanceMethod ({ cls := "ChordGrammarsModel", name := "isItem", desc := "()Z" } : Jvm.MethodName)) ∈ wA := kA (i := 979) (by decide +kernel) rfl
theorem k_980 : (Jvm.Cond.code ({ cls := "ChordGrammarsModel", name := "isItem", desc := "()Z" } : Jvm.MethodName) prog_12_method_13_code (1 : Nat) (Option.some Jvm.ClassFile.FieldType.boolean)) ∈ wA := kA (i := 980) (by decide +kernel) rfl
theorem k_981 : (Jvm.Cond.methodLink "ChordGrammarsModel" (140 : Nat) ({ cls := "ChordGrammarsModel", name := "isDegree", desc := "(I)Z" } : Jvm.MethodName)) ∈ wA := kA (i := 981) (by decide +kernel) rfl
theorem k_982 : (Jvm.Cond.static ({ cls := "ChordGrammarsModel", name := "isDegree", desc := "(I)Z" } : Jvm.MethodName)) ∈ wA := kA (i := 982) (by decide +kernel) rfl
theorem k_983 : (Jvm.Cond.code ({ cls := "ChordGrammarsModel", name := "isDegree", desc := "(I)Z" } : Jvm.MethodName) prog_12_method_10_code (1 : Nat) (Option.some Jvm.ClassFile.FieldType.boolean)) ∈ wA := kA (i := 983) (by decide +kernel) rfl
theorem k_984 : (Jvm.Cond.methodLink "ChordGrammarsModel" (157 : Nat) ({ cls := "ChordGrammarsModel", name := "item", desc := "()I" } : Jvm.MethodName)) ∈ wA := kA (i := 984) (by decide +kernel) rfl
theorem k_986 : (Jvm.Cond.instanceMethod ({ cls := "ChordGrammarsModel", name := "item", desc := "()I" } : Jvm.MethodName)) ∈ wA := kA (i := 986) (by decide +kernel) rfl
theorem k_987 : (Jvm.Cond.code ({ cls := "ChordGrammarsModel", name := "item", desc := "()I" } : Jvm.MethodName) prog_12_method_12_code (3 : Nat) (Option.some Jvm.ClassFile.FieldType.int)) ∈ wA := kA (i := 987) (by decide +kernel) rfl
theorem k_988 : (Jvm.Cond.methodLink "ChordGrammarsModel" (136 : Nat) ({ cls := "ChordGrammarsModel", name := "kindOf", desc := "(I)I" } : Jvm.MethodName)) ∈ wA := kA (i := 988) (by decide +kernel) rfl
theorem k_989 : (Jvm.Cond.static ({ cls := "ChordGrammarsModel", name := "kindOf", desc := "(I)I" } : Jvm.MethodName)) ∈ wA := kA (i := 989) (by decide +kernel) rfl
theorem k_990 : (Jvm.Cond.code ({ cls := "ChordGrammarsModel", name := "kindOf", desc := "(I)I" } : Jvm.MethodName) prog_12_method_11_code (1 : Nat) (Option.some Jvm.ClassFile.FieldType.int)) ∈ wA := kA (i := 990) (by decide +kernel) rfl
theorem k_991 : (Jvm.Cond.methodLink "ChordGrammarsModel" (160 : Nat) ({ cls := "ChordGrammarsModel", name := "figures", desc := "()I" } : Jvm.MethodName)) ∈ wA := kA (i := 991) (by decide +kernel) rfl
theorem k_993 : (Jvm.Cond.instanceMethod ({ cls := "ChordGrammarsModel", name := "figures", desc := "()I" } : Jvm.MethodName)) ∈ wA := kA (i := 993) (by decide +kernel) rfl
theorem k_994 : (Jvm.Cond.code ({ cls := "ChordGrammarsModel", name := "figures", desc := "()I" } : Jvm.MethodName) prog_12_method_14_code (3 : Nat) (Option.some Jvm.ClassFile.FieldType.int)) ∈ wA := kA (i := 994) (by decide +kernel) rfl
theorem k_995 : (Jvm.Cond.methodLink "ChordGrammarsModel" (169 : Nat) ({ cls := "ChordGrammarsModel", name := "findRings", desc := "()V" } : Jvm.MethodName)) ∈ wA := kA (i := 995) (by decide +kernel) rfl
theorem k_997 : (Jvm.Cond.instanceMethod ({ cls := "ChordGrammarsModel", name := "findRings", desc := "()V" } : Jvm.MethodName)) ∈ wA := kA (i := 997) (by decide +kernel) rfl
theorem k_998 : (Jvm.Cond.code ({ cls := "ChordGrammarsModel", name := "findRings", desc := "()V" } : Jvm.MethodName) prog_12_method_17_code (4 : Nat) (Option.none : Option Jvm.ClassFile.FieldType)) ∈ wA := kA (i := 998) (by decide +kernel) rfl
theorem k_999 : (Jvm.Cond.methodLink "ChordGrammarsModel" (163 : Nat) ({ cls := "ChordGrammarsModel", name := "isUnary", desc := "(I)Z" } : Jvm.MethodName)) ∈ wA := kA (i := 999) (by decide +kernel) rfl
theorem k_1001 : (Jvm.Cond.instanceMethod ({ cls := "ChordGrammarsModel", name := "isUnary", desc := "(I)Z" } : Jvm.MethodName)) ∈ wA := kA (i := 1001) (by decide +kernel) rfl
theorem k_1002 : (Jvm.Cond.code ({ cls := "ChordGrammarsModel", name := "isUnary", desc := "(I)Z" } : Jvm.MethodName) prog_12_method_16_code (2 : Nat) (Option.some Jvm.ClassFile.FieldType.boolean)) ∈ wA := kA (i := 1002) (by decide +kernel) rfl
theorem k_1003 : (Jvm.Cond.methodLink "ChordGrammarsLaw" (45 : Nat) ({ cls := "ChordGrammarsModel", name := "slot", desc := "(III)I" } : Jvm.MethodName)) ∈ wA := kA (i := 1003) (by decide +kernel) rfl
theorem k_1004 : (Jvm.Cond.instanceMethod ({ cls := "ChordGrammarsModel", name := "slot", desc := "(III)I" } : Jvm.MethodName)) ∈ wA := kA (i := 1004) (by decide +kernel) rfl
theorem k_1005 : (Jvm.Cond.selects "ChordGrammarsModel" ({ cls := "ChordGrammarsModel", name := "slot", desc := "(III)I" } : Jvm.MethodName) ({ cls := "ChordGrammarsModel", name := "slot", desc := "(III)I" } : Jvm.MethodName)) ∈ wA := kA (i := 1005) (by decide +kernel) rfl
theorem k_1006 : (Jvm.Cond.code ({ cls := "ChordGrammarsModel", name := "slot", desc := "(III)I" } : Jvm.MethodName) prog_12_method_19_code (4 : Nat) (Option.some Jvm.ClassFile.FieldType.int)) ∈ wA := kA (i := 1006) (by decide +kernel) rfl
theorem k_1007 : (Jvm.Cond.methodLink "ChordGrammarsLaw" (49 : Nat) ({ cls := "ChordGrammarsModel", name := "clear", desc := "()I" } : Jvm.MethodName)) ∈ wA := kA (i := 1007) (by decide +kernel) rfl
theorem k_1008 : (Jvm.Cond.instanceMethod ({ cls := "ChordGrammarsModel", name := "clear", desc := "()I" } : Jvm.MethodName)) ∈ wA := kA (i := 1008) (by decide +kernel) rfl
theorem k_1009 : (Jvm.Cond.selects "ChordGrammarsModel" ({ cls := "ChordGrammarsModel", name := "clear", desc := "()I" } : Jvm.MethodName) ({ cls := "ChordGrammarsModel", name := "clear", desc := "()I" } : Jvm.MethodName)) ∈ wA := kA (i := 1009) (by decide +kernel) rfl
theorem k_1010 : (Jvm.Cond.code ({ cls := "ChordGrammarsModel", name := "clear", desc := "()I" } : Jvm.MethodName) prog_12_method_20_code (2 : Nat) (Option.some Jvm.ClassFile.FieldType.int)) ∈ wA := kA (i := 1010) (by decide +kernel) rfl
theorem k_1011 : (Jvm.Cond.methodLink "ChordGrammarsLaw" (53 : Nat) ({ cls := "ChordGrammarsModel", name := "fit", desc := "(III)I" } : Jvm.MethodName)) ∈ wA := kA (i := 1011) (by decide +kernel) rfl
theorem k_1012 : (Jvm.Cond.instanceMethod ({ cls := "ChordGrammarsModel", name := "fit", desc := "(III)I" } : Jvm.MethodName)) ∈ wA := kA (i := 1012) (by decide +kernel) rfl
theorem k_1013 : (Jvm.Cond.selects "ChordGrammarsModel" ({ cls := "ChordGrammarsModel", name := "fit", desc := "(III)I" } : Jvm.MethodName) ({ cls := "ChordGrammarsModel", name := "fit", desc := "(III)I" } : Jvm.MethodName)) ∈ wA := kA (i := 1013) (by decide +kernel) rfl
theorem k_1014 : (Jvm.Cond.code ({ cls := "ChordGrammarsModel", name := "fit", desc := "(III)I" } : Jvm.MethodName) prog_12_method_25_code (4 : Nat) (Option.some Jvm.ClassFile.FieldType.int)) ∈ wA := kA (i := 1014) (by decide +kernel) rfl
theorem k_1015 : (Jvm.Cond.methodLink "ChordGrammarsModel" (188 : Nat) ({ cls := "ChordGrammarsModel", name := "fits", desc := "(III)I" } : Jvm.MethodName)) ∈ wA := kA (i := 1015) (by decide +kernel) rfl
theorem k_1017 : (Jvm.Cond.instanceMethod ({ cls := "ChordGrammarsModel", name := "fits", desc := "(III)I" } : Jvm.MethodName)) ∈ wA := kA (i := 1017) (by decide +kernel) rfl
theorem k_1018 : (Jvm.Cond.code ({ cls := "ChordGrammarsModel", name := "fits", desc := "(III)I" } : Jvm.MethodName) prog_12_method_24_code (8 : Nat) (Option.some Jvm.ClassFile.FieldType.int)) ∈ wA := kA (i := 1018) (by decide +kernel) rfl
theorem k_1019 : (Jvm.Cond.methodLink "ChordGrammarsModel" (181 : Nat) ({ cls := "ChordGrammarsModel", name := "classes", desc := "(II)I" } : Jvm.MethodName)) ∈ wA := kA (i := 1019) (by decide +kernel) rfl
theorem k_1020 : (Jvm.Cond.static ({ cls := "ChordGrammarsModel", name := "classes", desc := "(II)I" } : Jvm.MethodName)) ∈ wA := kA (i := 1020) (by decide +kernel) rfl
theorem k_1021 : (Jvm.Cond.code ({ cls := "ChordGrammarsModel", name := "classes", desc := "(II)I" } : Jvm.MethodName) prog_12_method_22_code (3 : Nat) (Option.some Jvm.ClassFile.FieldType.int)) ∈ wA := kA (i := 1021) (by decide +kernel) rfl
theorem k_1022 : (Jvm.Cond.methodLink "ChordGrammarsModel" (178 : Nat) ({ cls := "ChordGrammarsModel", name := "shape", desc := "(I)I" } : Jvm.MethodName)) ∈ wA := kA (i := 1022) (by decide +kernel) rfl
theorem k_1023 : (Jvm.Cond.static ({ cls := "ChordGrammarsModel", name := "shape", desc := "(I)I" } : Jvm.MethodName)) ∈ wA := kA (i := 1023) (by decide +kernel) rfl
theorem k_1024 : (Jvm.Cond.code ({ cls := "ChordGrammarsModel", name := "shape", desc := "(I)I" } : Jvm.MethodName) prog_12_method_21_code (1 : Nat) (Option.some Jvm.ClassFile.FieldType.int)) ∈ wA := kA (i := 1024) (by decide +kernel) rfl
theorem k_1025 : (Jvm.Cond.methodLink "ChordGrammarsModel" (185 : Nat) ({ cls := "ChordGrammarsModel", name := "many", desc := "(I)I" } : Jvm.MethodName)) ∈ wA := kA (i := 1025) (by decide +kernel) rfl
theorem k_1026 : (Jvm.Cond.static ({ cls := "ChordGrammarsModel", name := "many", desc := "(I)I" } : Jvm.MethodName)) ∈ wA := kA (i := 1026) (by decide +kernel) rfl
theorem k_1027 : (Jvm.Cond.code ({ cls := "ChordGrammarsModel", name := "many", desc := "(I)I" } : Jvm.MethodName) prog_12_method_23_code (3 : Nat) (Option.some Jvm.ClassFile.FieldType.int)) ∈ wA := kA (i := 1027) (by decide +kernel) rfl
theorem k_1028 : (Jvm.Cond.methodLink "ChordGrammarsLaw" (58 : Nat) ({ cls := "ChordGrammarsModel", name := "best", desc := "(I)I" } : Jvm.MethodName)) ∈ wA := kA (i := 1028) (by decide +kernel) rfl
theorem k_1029 : (Jvm.Cond.instanceMethod ({ cls := "ChordGrammarsModel", name := "best", desc := "(I)I" } : Jvm.MethodName)) ∈ wA := kA (i := 1029) (by decide +kernel) rfl
theorem k_1030 : (Jvm.Cond.selects "ChordGrammarsModel" ({ cls := "ChordGrammarsModel", name := "best", desc := "(I)I" } : Jvm.MethodName) ({ cls := "ChordGrammarsModel", name := "best", desc := "(I)I" } : Jvm.MethodName)) ∈ wA := kA (i := 1030) (by decide +kernel) rfl
theorem k_1031 : (Jvm.Cond.code ({ cls := "ChordGrammarsModel", name := "best", desc := "(I)I" } : Jvm.MethodName) prog_12_method_26_code (6 : Nat) (Option.some Jvm.ClassFile.FieldType.int)) ∈ wA := kA (i := 1031) (by decide +kernel) rfl
theorem k_1032 : (Jvm.Cond.methodLink "ChordGrammarsLaw" (62 : Nat) ({ cls := "ChordGrammarsModel", name := "parse", desc := "()I" } : Jvm.MethodName)) ∈ wA := kA (i := 1032) (by decide +kernel) rfl
theorem k_1033 : (Jvm.Cond.instanceMethod ({ cls := "ChordGrammarsModel", name := "parse", desc := "()I" } : Jvm.MethodName)) ∈ wA := kA (i := 1033) (by decide +kernel) rfl
theorem k_1034 : (Jvm.Cond.selects "ChordGrammarsModel" ({ cls := "ChordGrammarsModel", name := "parse", desc := "()I" } : Jvm.MethodName) ({ cls := "ChordGrammarsModel", name := "parse", desc := "()I" } : Jvm.MethodName)) ∈ wA := kA (i := 1034) (by decide +kernel) rfl
theorem k_1035 : (Jvm.Cond.code ({ cls := "ChordGrammarsModel", name := "parse", desc := "()I" } : Jvm.MethodName) prog_12_method_38_code (7 : Nat) (Option.some Jvm.ClassFile.FieldType.int)) ∈ wA := kA (i := 1035) (by decide +kernel) rfl
theorem k_1036 : (Jvm.Cond.methodLink "ChordGrammarsModel" (222 : Nat) ({ cls := "ChordGrammarsModel", name := "readSymbols", desc := "()V" } : Jvm.MethodName)) ∈ wA := kA (i := 1036) (by decide +kernel) rfl
theorem k_1038 : (Jvm.Cond.instanceMethod ({ cls := "ChordGrammarsModel", name := "readSymbols", desc := "()V" } : Jvm.MethodName)) ∈ wA := kA (i := 1038) (by decide +kernel) rfl
theorem k_1039 : (Jvm.Cond.code ({ cls := "ChordGrammarsModel", name := "readSymbols", desc := "()V" } : Jvm.MethodName) prog_12_method_28_code (7 : Nat) (Option.none : Option Jvm.ClassFile.FieldType)) ∈ wA := kA (i := 1039) (by decide +kernel) rfl
theorem k_1040 : (Jvm.Cond.methodLink "ChordGrammarsModel" (195 : Nat) ({ cls := "ChordGrammarsModel", name := "degree", desc := "(I)I" } : Jvm.MethodName)) ∈ wA := kA (i := 1040) (by decide +kernel) rfl
theorem k_1042 : (Jvm.Cond.instanceMethod ({ cls := "ChordGrammarsModel", name := "degree", desc := "(I)I" } : Jvm.MethodName)) ∈ wA := kA (i := 1042) (by decide +kernel) rfl
theorem k_1043 : (Jvm.Cond.code ({ cls := "ChordGrammarsModel", name := "degree", desc := "(I)I" } : Jvm.MethodName) prog_12_method_27_code (2 : Nat) (Option.some Jvm.ClassFile.FieldType.int)) ∈ wA := kA (i := 1043) (by decide +kernel) rfl
theorem k_1044 : (Jvm.Cond.methodLink "ChordGrammarsModel" (225 : Nat) ({ cls := "ChordGrammarsModel", name := "order", desc := "()V" } : Jvm.MethodName)) ∈ wA := kA (i := 1044) (by decide +kernel) rfl
theorem k_1046 : (Jvm.Cond.instanceMethod ({ cls := "ChordGrammarsModel", name := "order", desc := "()V" } : Jvm.MethodName)) ∈ wA := kA (i := 1046) (by decide +kernel) rfl
theorem k_1047 : (Jvm.Cond.code ({ cls := "ChordGrammarsModel", name := "order", desc := "()V" } : Jvm.MethodName) prog_12_method_36_code (5 : Nat) (Option.none : Option Jvm.ClassFile.FieldType)) ∈ wA := kA (i := 1047) (by decide +kernel) rfl
theorem k_1048 : (Jvm.Cond.methodLink "ChordGrammarsModel" (228 : Nat) ({ cls := "ChordGrammarsModel", name := "nameAt", desc := "(I)I" } : Jvm.MethodName)) ∈ wA := kA (i := 1048) (by decide +kernel) rfl
theorem k_1050 : (Jvm.Cond.instanceMethod ({ cls := "ChordGrammarsModel", name := "nameAt", desc := "(I)I" } : Jvm.MethodName)) ∈ wA := kA (i := 1050) (by decide +kernel) rfl
theorem k_1051 : (Jvm.Cond.code ({ cls := "ChordGrammarsModel", name := "nameAt", desc := "(I)I" } : Jvm.MethodName) prog_12_method_37_code (3 : Nat) (Option.some Jvm.ClassFile.FieldType.int)) ∈ wA := kA (i := 1051) (by decide +kernel) rfl
theorem k_1052 : (Jvm.Cond.methodLink "ChordGrammarsModel" (198 : Nat) ({ cls := "ChordGrammarsModel", name := "cellOf", desc := "(III)I" } : Jvm.MethodName)) ∈ wA := kA (i := 1052) (by decide +kernel) rfl
theorem k_1053 : (Jvm.Cond.static ({ cls := "ChordGrammarsModel", name := "cellOf", desc := "(III)I" } : Jvm.MethodName)) ∈ wA := kA (i := 1053) (by decide +kernel) rfl
theorem k_1054 : (Jvm.Cond.code ({ cls := "ChordGrammarsModel", name := "cellOf", desc := "(III)I" } : Jvm.MethodName) prog_12_method_29_code (3 : Nat) (Option.some Jvm.ClassFile.FieldType.int)) ∈ wA := kA (i := 1054) (by decide +kernel) rfl
theorem k_1055 : (Jvm.Cond.methodLink "ChordGrammarsModel" (231 : Nat) ({ cls := "ChordGrammarsModel", name := "one", desc := "(IIII)V" } : Jvm.MethodName)) ∈ wA := kA (i := 1055) (by decide +kernel) rfl
theorem k_1057 : (Jvm.Cond.instanceMethod ({ cls := "ChordGrammarsModel", name := "one", desc := "(IIII)V" } : Jvm.MethodName)) ∈ wA := kA (i := 1057) (by decide +kernel) rfl
theorem k_1058 : (Jvm.Cond.code ({ cls := "ChordGrammarsModel", name := "one", desc := "(IIII)V" } : Jvm.MethodName) prog_12_method_34_code (8 : Nat) (Option.none : Option Jvm.ClassFile.FieldType)) ∈ wA := kA (i := 1058) (by decide +kernel) rfl
theorem k_1059 : (Jvm.Cond.methodLink "ChordGrammarsModel" (201 : Nat) ({ cls := "ChordGrammarsModel", name := "itemSize", desc := "(III)I" } : Jvm.MethodName)) ∈ wA := kA (i := 1059) (by decide +kernel) rfl
theorem k_1061 : (Jvm.Cond.instanceMethod ({ cls := "ChordGrammarsModel", name := "itemSize", desc := "(III)I" } : Jvm.MethodName)) ∈ wA := kA (i := 1061) (by decide +kernel) rfl
theorem k_1062 : (Jvm.Cond.code ({ cls := "ChordGrammarsModel", name := "itemSize", desc := "(III)I" } : Jvm.MethodName) prog_12_method_30_code (4 : Nat) (Option.some Jvm.ClassFile.FieldType.int)) ∈ wA := kA (i := 1062) (by decide +kernel) rfl
theorem k_1063 : (Jvm.Cond.methodLink "ChordGrammarsModel" (204 : Nat) ({ cls := "ChordGrammarsModel", name := "itemCount", desc := "(III)J" } : Jvm.MethodName)) ∈ wA := kA (i := 1063) (by decide +kernel) rfl
theorem k_1065 : (Jvm.Cond.instanceMethod ({ cls := "ChordGrammarsModel", name := "itemCount", desc := "(III)J" } : Jvm.MethodName)) ∈ wA := kA (i := 1065) (by decide +kernel) rfl
theorem k_1066 : (Jvm.Cond.code ({ cls := "ChordGrammarsModel", name := "itemCount", desc := "(III)J" } : Jvm.MethodName) prog_12_method_31_code (4 : Nat) (Option.some Jvm.ClassFile.FieldType.long)) ∈ wA := kA (i := 1066) (by decide +kernel) rfl
theorem k_1067 : (Jvm.Cond.methodLink "ChordGrammarsModel" (208 : Nat) ({ cls := "ChordGrammarsModel", name := "itemCost", desc := "(IIII)I" } : Jvm.MethodName)) ∈ wA := kA (i := 1067) (by decide +kernel) rfl
theorem k_1069 : (Jvm.Cond.instanceMethod ({ cls := "ChordGrammarsModel", name := "itemCost", desc := "(IIII)I" } : Jvm.MethodName)) ∈ wA := kA (i := 1069) (by decide +kernel) rfl
theorem k_1070 : (Jvm.Cond.code ({ cls := "ChordGrammarsModel", name := "itemCost", desc := "(IIII)I" } : Jvm.MethodName) prog_12_method_32_code (5 : Nat) (Option.some Jvm.ClassFile.FieldType.int)) ∈ wA := kA (i := 1070) (by decide +kernel) rfl
theorem k_1071 : (Jvm.Cond.methodLink "ChordGrammarsModel" (212 : Nat) ({ cls := "ChordGrammarsModel", name := "comes", desc := "(III)Z" } : Jvm.MethodName)) ∈ wA := kA (i := 1071) (by decide +kernel) rfl
theorem k_1073 : (Jvm.Cond.instanceMethod ({ cls := "ChordGrammarsModel", name := "comes", desc := "(III)Z" } : Jvm.MethodName)) ∈ wA := kA (i := 1073) (by decide +kernel) rfl
theorem k_1074 : (Jvm.Cond.code ({ cls := "ChordGrammarsModel", name := "comes", desc := "(III)Z" } : Jvm.MethodName) prog_12_method_33_code (7 : Nat) (Option.some Jvm.ClassFile.FieldType.boolean)) ∈ wA := kA (i := 1074) (by decide +kernel) rfl
theorem k_1075 : (Jvm.Cond.methodLink "ChordGrammarsModel" (235 : Nat) ({ cls := "ChordGrammarsModel", name := "two", desc := "(IIII)V" } : Jvm.MethodName)) ∈ wA := kA (i := 1075) (by decide +kernel) rfl
theorem k_1077 : (Jvm.Cond.instanceMethod ({ cls := "ChordGrammarsModel", name := "two", desc := "(IIII)V" } : Jvm.MethodName)) ∈ wA := kA (i := 1077) (by decide +kernel) rfl
theorem k_1078 : (Jvm.Cond.code ({ cls := "ChordGrammarsModel", name := "two", desc := "(IIII)V" } : Jvm.MethodName) prog_12_method_35_code (13 : Nat) (Option.none : Option Jvm.ClassFile.FieldType)) ∈ wA := kA (i := 1078) (by decide +kernel) rfl
theorem k_1079 : (Jvm.Cond.methodLink "ChordGrammarsModel" (238 : Nat) ({ cls := "ChordGrammarsModel", name := "listed", desc := "()I" } : Jvm.MethodName)) ∈ wA := kA (i := 1079) (by decide +kernel) rfl
theorem k_1081 : (Jvm.Cond.instanceMethod ({ cls := "ChordGrammarsModel", name := "listed", desc := "()I" } : Jvm.MethodName)) ∈ wA := kA (i := 1081) (by decide +kernel) rfl
theorem k_1082 : (Jvm.Cond.code ({ cls := "ChordGrammarsModel", name := "listed", desc := "()I" } : Jvm.MethodName) prog_12_method_40_code (1 : Nat) (Option.some Jvm.ClassFile.FieldType.int)) ∈ wA := kA (i := 1082) (by decide +kernel) rfl
theorem k_1083 : (Jvm.Cond.methodLink "ChordGrammarsModel" (241 : Nat) ({ cls := "ChordGrammarsModel", name := "topCell", desc := "()I" } : Jvm.MethodName)) ∈ wA := kA (i := 1083) (by decide +kernel) rfl
theorem k_1085 : (Jvm.Cond.instanceMethod ({ cls := "ChordGrammarsModel", name := "topCell", desc := "()I" } : Jvm.MethodName)) ∈ wA := kA (i := 1085) (by decide +kernel) rfl
theorem k_1086 : (Jvm.Cond.code ({ cls := "ChordGrammarsModel", name := "topCell", desc := "()I" } : Jvm.MethodName) prog_12_method_39_code (1 : Nat) (Option.some Jvm.ClassFile.FieldType.int)) ∈ wA := kA (i := 1086) (by decide +kernel) rfl
theorem k_1087 : (Jvm.Cond.methodLink "ChordGrammarsLaw" (67 : Nat) ({ cls := "ChordGrammarsModel", name := "readings", desc := "()J" } : Jvm.MethodName)) ∈ wA := kA (i := 1087) (by decide +kernel) rfl
theorem k_1088 : (Jvm.Cond.instanceMethod ({ cls := "ChordGrammarsModel", name := "readings", desc := "()J" } : Jvm.MethodName)) ∈ wA := kA (i := 1088) (by decide +kernel) rfl
theorem k_1089 : (Jvm.Cond.selects "ChordGrammarsModel" ({ cls := "ChordGrammarsModel", name := "readings", desc := "()J" } : Jvm.MethodName) ({ cls := "ChordGrammarsModel", name := "readings", desc := "()J" } : Jvm.MethodName)) ∈ wA := kA (i := 1089) (by decide +kernel) rfl
theorem k_1090 : (Jvm.Cond.code ({ cls := "ChordGrammarsModel", name := "readings", desc := "()J" } : Jvm.MethodName) prog_12_method_42_code (1 : Nat) (Option.some Jvm.ClassFile.FieldType.long)) ∈ wA := kA (i := 1090) (by decide +kernel) rfl
theorem k_1091 : (Jvm.Cond.methodLink "ChordGrammarsLaw" (71 : Nat) ({ cls := "ChordGrammarsModel", name := "price", desc := "(I)I" } : Jvm.MethodName)) ∈ wA := kA (i := 1091) (by decide +kernel) rfl
theorem k_1092 : (Jvm.Cond.instanceMethod ({ cls := "ChordGrammarsModel", name := "price", desc := "(I)I" } : Jvm.MethodName)) ∈ wA := kA (i := 1092) (by decide +kernel) rfl
theorem k_1093 : (Jvm.Cond.selects "ChordGrammarsModel" ({ cls := "ChordGrammarsModel", name := "price", desc := "(I)I" } : Jvm.MethodName) ({ cls := "ChordGrammarsModel", name := "price", desc := "(I)I" } : Jvm.MethodName)) ∈ wA := kA (i := 1093) (by decide +kernel) rfl
theorem k_1094 : (Jvm.Cond.code ({ cls := "ChordGrammarsModel", name := "price", desc := "(I)I" } : Jvm.MethodName) prog_12_method_43_code (2 : Nat) (Option.some Jvm.ClassFile.FieldType.int)) ∈ wA := kA (i := 1094) (by decide +kernel) rfl
theorem k_1095 : (Jvm.Cond.methodLink "ChordGrammarsModel" (244 : Nat) ({ cls := "ChordGrammarsModel", name := "noReading", desc := "(I)Z" } : Jvm.MethodName)) ∈ wA := kA (i := 1095) (by decide +kernel) rfl
theorem k_1097 : (Jvm.Cond.instanceMethod ({ cls := "ChordGrammarsModel", name := "noReading", desc := "(I)Z" } : Jvm.MethodName)) ∈ wA := kA (i := 1097) (by decide +kernel) rfl
theorem k_1098 : (Jvm.Cond.code ({ cls := "ChordGrammarsModel", name := "noReading", desc := "(I)Z" } : Jvm.MethodName) prog_12_method_41_code (2 : Nat) (Option.some Jvm.ClassFile.FieldType.boolean)) ∈ wA := kA (i := 1098) (by decide +kernel) rfl
theorem k_1099 : (Jvm.Cond.methodLink "ChordGrammarsLaw" (75 : Nat) ({ cls := "ChordGrammarsModel", name := "node", desc := "(III)I" } : Jvm.MethodName)) ∈ wA := kA (i := 1099) (by decide +kernel) rfl
theorem k_1100 : (Jvm.Cond.instanceMethod ({ cls := "ChordGrammarsModel", name := "node", desc := "(III)I" } : Jvm.MethodName)) ∈ wA := kA (i := 1100) (by decide +kernel) rfl
theorem k_1101 : (Jvm.Cond.selects "ChordGrammarsModel" ({ cls := "ChordGrammarsModel", name := "node", desc := "(III)I" } : Jvm.MethodName) ({ cls := "ChordGrammarsModel", name := "node", desc := "(III)I" } : Jvm.MethodName)) ∈ wA := kA (i := 1101) (by decide +kernel) rfl
theorem k_1102 : (Jvm.Cond.code ({ cls := "ChordGrammarsModel", name := "node", desc := "(III)I" } : Jvm.MethodName) prog_12_method_48_code (6 : Nat) (Option.some Jvm.ClassFile.FieldType.int)) ∈ wA := kA (i := 1102) (by decide +kernel) rfl
theorem k_1103 : (Jvm.Cond.methodLink "ChordGrammarsModel" (265 : Nat) ({ cls := "ChordGrammarsModel", name := "begin", desc := "(I)V" } : Jvm.MethodName)) ∈ wA := kA (i := 1103) (by decide +kernel) rfl
theorem k_1105 : (Jvm.Cond.instanceMethod ({ cls := "ChordGrammarsModel", name := "begin", desc := "(I)V" } : Jvm.MethodName)) ∈ wA := kA (i := 1105) (by decide +kernel) rfl
theorem k_1106 : (Jvm.Cond.code ({ cls := "ChordGrammarsModel", name := "begin", desc := "(I)V" } : Jvm.MethodName) prog_12_method_45_code (2 : Nat) (Option.none : Option Jvm.ClassFile.FieldType)) ∈ wA := kA (i := 1106) (by decide +kernel) rfl
theorem k_1107 : (Jvm.Cond.methodLink "ChordGrammarsModel" (250 : Nat) ({ cls := "ChordGrammarsModel", name := "later", desc := "(IIII)V" } : Jvm.MethodName)) ∈ wA := kA (i := 1107) (by decide +kernel) rfl
theorem k_1109 : (Jvm.Cond.instanceMethod ({ cls := "ChordGrammarsModel", name := "later", desc := "(IIII)V" } : Jvm.MethodName)) ∈ wA := kA (i := 1109) (by decide +kernel) rfl
theorem k_1110 : (Jvm.Cond.code ({ cls := "ChordGrammarsModel", name := "later", desc := "(IIII)V" } : Jvm.MethodName) prog_12_method_44_code (5 : Nat) (Option.none : Option Jvm.ClassFile.FieldType)) ∈ wA := kA (i := 1110) (by decide +kernel) rfl
theorem k_1111 : (Jvm.Cond.methodLink "ChordGrammarsModel" (268 : Nat) ({ cls := "ChordGrammarsModel", name := "next", desc := "()Z" } : Jvm.MethodName)) ∈ wA := kA (i := 1111) (by decide +kernel) rfl
theorem k_1113 : (Jvm.Cond.instanceMethod ({ cls := "ChordGrammarsModel", name := "next", desc := "()Z" } : Jvm.MethodName)) ∈ wA := kA (i := 1113) (by decide +kernel) rfl
theorem k_1114 : (Jvm.Cond.code ({ cls := "ChordGrammarsModel", name := "next", desc := "()Z" } : Jvm.MethodName) prog_12_method_46_code (6 : Nat) (Option.some Jvm.ClassFile.FieldType.boolean)) ∈ wA := kA (i := 1114) (by decide +kernel) rfl
theorem k_1115 : (Jvm.Cond.methodLink "ChordGrammarsModel" (271 : Nat) ({ cls := "ChordGrammarsModel", name := "nodeChord", desc := "()I" } : Jvm.MethodName)) ∈ wA := kA (i := 1115) (by decide +kernel) rfl
theorem k_1117 : (Jvm.Cond.instanceMethod ({ cls := "ChordGrammarsModel", name := "nodeChord", desc := "()I" } : Jvm.MethodName)) ∈ wA := kA (i := 1117) (by decide +kernel) rfl
theorem k_1118 : (Jvm.Cond.code ({ cls := "ChordGrammarsModel", name := "nodeChord", desc := "()I" } : Jvm.MethodName) prog_12_method_47_code (1 : Nat) (Option.some Jvm.ClassFile.FieldType.int)) ∈ wA := kA (i := 1118) (by decide +kernel) rfl
theorem k_1119 : (Jvm.Cond.methodLink "ChordGrammarsLaw" (79 : Nat) ({ cls := "ChordGrammarsModel", name := "nodes", desc := "(I)I" } : Jvm.MethodName)) ∈ wA := kA (i := 1119) (by decide +kernel) rfl
theorem k_1120 : (Jvm.Cond.instanceMethod ({ cls := "ChordGrammarsModel", name := "nodes", desc := "(I)I" } : Jvm.MethodName)) ∈ wA := kA (i := 1120) (by decide +kernel) rfl
theorem k_1121 : (Jvm.Cond.selects "ChordGrammarsModel" ({ cls := "ChordGrammarsModel", name := "nodes", desc := "(I)I" } : Jvm.MethodName) ({ cls := "ChordGrammarsModel", name := "nodes", desc := "(I)I" } : Jvm.MethodName)) ∈ wA := kA (i := 1121) (by decide +kernel) rfl
theorem k_1122 : (Jvm.Cond.code ({ cls := "ChordGrammarsModel", name := "nodes", desc := "(I)I" } : Jvm.MethodName) prog_12_method_49_code (3 : Nat) (Option.some Jvm.ClassFile.FieldType.int)) ∈ wA := kA (i := 1122) (by decide +kernel) rfl
theorem k_1123 : (Jvm.Cond.methodLink "ChordGrammarsLaw" (84 : Nat) ({ cls := "ChordGrammarsModel", name := "chord", desc := "(II)I" } : Jvm.MethodName)) ∈ wA := kA (i := 1123) (by decide +kernel) rfl
theorem k_1124 : (Jvm.Cond.instanceMethod ({ cls := "ChordGrammarsModel", name := "chord", desc := "(II)I" } : Jvm.MethodName)) ∈ wA := kA (i := 1124) (by decide +kernel) rfl
theorem k_1125 : (Jvm.Cond.selects "ChordGrammarsModel" ({ cls := "ChordGrammarsModel", name := "chord", desc := "(II)I" } : Jvm.MethodName) ({ cls := "ChordGrammarsModel", name := "chord", desc := "(II)I" } : Jvm.MethodName)) ∈ wA := kA (i := 1125) (by decide +kernel) rfl
theorem k_1126 : (Jvm.Cond.code ({ cls := "ChordGrammarsModel", name := "chord", desc := "(II)I" } : Jvm.MethodName) prog_12_method_51_code (3 : Nat) (Option.some Jvm.ClassFile.FieldType.int)) ∈ wA := kA (i := 1126) (by decide +kernel) rfl
theorem k_1127 : (Jvm.Cond.methodLink "ChordGrammarsModel" (274 : Nat) ({ cls := "ChordGrammarsModel", name := "symbolAt", desc := "(II)I" } : Jvm.MethodName)) ∈ wA := kA (i := 1127) (by decide +kernel) rfl
theorem k_1129 : (Jvm.Cond.instanceMethod ({ cls := "ChordGrammarsModel", name := "symbolAt", desc := "(II)I" } : Jvm.MethodName)) ∈ wA := kA (i := 1129) (by decide +kernel) rfl
theorem k_1130 : (Jvm.Cond.code ({ cls := "ChordGrammarsModel", name := "symbolAt", desc := "(II)I" } : Jvm.MethodName) prog_12_method_50_code (3 : Nat) (Option.some Jvm.ClassFile.FieldType.int)) ∈ wA := kA (i := 1130) (by decide +kernel) rfl
theorem k_1131 : (Jvm.Cond.methodLink "ChordGrammarsLaw" (88 : Nat) ({ cls := "ChordGrammarsModel", name := "cadence", desc := "(I)I" } : Jvm.MethodName)) ∈ wA := kA (i := 1131) (by decide +kernel) rfl
theorem k_1132 : (Jvm.Cond.instanceMethod ({ cls := "ChordGrammarsModel", name := "cadence", desc := "(I)I" } : Jvm.MethodName)) ∈ wA := kA (i := 1132) (by decide +kernel) rfl
theorem k_1133 : (Jvm.Cond.selects "ChordGrammarsModel" ({ cls := "ChordGrammarsModel", name := "cadence", desc := "(I)I" } : Jvm.MethodName) ({ cls := "ChordGrammarsModel", name := "cadence", desc := "(I)I" } : Jvm.MethodName)) ∈ wA := kA (i := 1133) (by decide +kernel) rfl
theorem k_1134 : (Jvm.Cond.code ({ cls := "ChordGrammarsModel", name := "cadence", desc := "(I)I" } : Jvm.MethodName) prog_12_method_52_code (4 : Nat) (Option.some Jvm.ClassFile.FieldType.int)) ∈ wA := kA (i := 1134) (by decide +kernel) rfl
theorem k_1135 : (Jvm.Cond.methodLink "ChordGrammarsLaw" (92 : Nat) ({ cls := "ChordGrammarsModel", name := "melody", desc := "(II)I" } : Jvm.MethodName)) ∈ wA := kA (i := 1135) (by decide +kernel) rfl
theorem k_1136 : (Jvm.Cond.instanceMethod ({ cls := "ChordGrammarsModel", name := "melody", desc := "(II)I" } : Jvm.MethodName)) ∈ wA := kA (i := 1136) (by decide +kernel) rfl
theorem k_1137 : (Jvm.Cond.selects "ChordGrammarsModel" ({ cls := "ChordGrammarsModel", name := "melody", desc := "(II)I" } : Jvm.MethodName) ({ cls := "ChordGrammarsModel", name := "melody", desc := "(II)I" } : Jvm.MethodName)) ∈ wA := kA (i := 1137) (by decide +kernel) rfl
theorem k_1138 : (Jvm.Cond.code ({ cls := "ChordGrammarsModel", name := "melody", desc := "(II)I" } : Jvm.MethodName) prog_12_method_56_code (10 : Nat) (Option.some Jvm.ClassFile.FieldType.int)) ∈ wA := kA (i := 1138) (by decide +kernel) rfl
theorem k_1139 : (Jvm.Cond.methodLink "ChordGrammarsModel" (277 : Nat) ({ cls := "ChordGrammarsModel", name := "isStep", desc := "(I)Z" } : Jvm.MethodName)) ∈ wA := kA (i := 1139) (by decide +kernel) rfl
theorem k_1140 : (Jvm.Cond.static ({ cls := "ChordGrammarsModel", name := "isStep", desc := "(I)Z" } : Jvm.MethodName)) ∈ wA := kA (i := 1140) (by decide +kernel) rfl
theorem k_1141 : (Jvm.Cond.code ({ cls := "ChordGrammarsModel", name := "isStep", desc := "(I)Z" } : Jvm.MethodName) prog_12_method_53_code (1 : Nat) (Option.some Jvm.ClassFile.FieldType.boolean)) ∈ wA := kA (i := 1141) (by decide +kernel) rfl
theorem k_1142 : (Jvm.Cond.methodLink "ChordGrammarsModel" (280 : Nat) ({ cls := "ChordGrammarsModel", name := "isTurned", desc := "(II)Z" } : Jvm.MethodName)) ∈ wA := kA (i := 1142) (by decide +kernel) rfl
theorem k_1143 : (Jvm.Cond.static ({ cls := "ChordGrammarsModel", name := "isTurned", desc := "(II)Z" } : Jvm.MethodName)) ∈ wA := kA (i := 1143) (by decide +kernel) rfl
theorem k_1144 : (Jvm.Cond.code ({ cls := "ChordGrammarsModel", name := "isTurned", desc := "(II)Z" } : Jvm.MethodName) prog_12_method_55_code (2 : Nat) (Option.some Jvm.ClassFile.FieldType.boolean)) ∈ wA := kA (i := 1144) (by decide +kernel) rfl
theorem k_1145 : (Jvm.Cond.methodLink "ChordGrammarsModel" (284 : Nat) ({ cls := "ChordGrammarsModel", name := "isMore", desc := "(I)Z" } : Jvm.MethodName)) ∈ wA := kA (i := 1145) (by decide +kernel) rfl
theorem k_1146 : (Jvm.Cond.static ({ cls := "ChordGrammarsModel", name := "isMore", desc := "(I)Z" } : Jvm.MethodName)) ∈ wA := kA (i := 1146) (by decide +kernel) rfl
theorem k_1147 : (Jvm.Cond.code ({ cls := "ChordGrammarsModel", name := "isMore", desc := "(I)Z" } : Jvm.MethodName) prog_12_method_54_code (1 : Nat) (Option.some Jvm.ClassFile.FieldType.boolean)) ∈ wA := kA (i := 1147) (by decide +kernel) rfl
theorem k_1148 : (Jvm.Cond.methodLink "ChordGrammarsLaw" (98 : Nat) ({ cls := "ChordGrammarsModel", name := "cell", desc := "(III)J" } : Jvm.MethodName)) ∈ wA := kA (i := 1148) (by decide +kernel) rfl
theorem k_1149 : (Jvm.Cond.instanceMethod ({ cls := "ChordGrammarsModel", name := "cell", desc := "(III)J" } : Jvm.MethodName)) ∈ wA := kA (i := 1149) (by decide +kernel) rfl
theorem k_1150 : (Jvm.Cond.selects "ChordGrammarsModel" ({ cls := "ChordGrammarsModel", name := "cell", desc := "(III)J" } : Jvm.MethodName) ({ cls := "ChordGrammarsModel", name := "cell", desc := "(III)J" } : Jvm.MethodName)) ∈ wA := kA (i := 1150) (by decide +kernel) rfl
theorem k_1151 : (Jvm.Cond.code ({ cls := "ChordGrammarsModel", name := "cell", desc := "(III)J" } : Jvm.MethodName) prog_12_method_57_code (4 : Nat) (Option.some Jvm.ClassFile.FieldType.long)) ∈ wA := kA (i := 1151) (by decide +kernel) rfl
theorem k_1152 : (Jvm.Cond.methodLink "ChordGrammarsLaw" (105 : Nat) ({ cls := "ChordGrammarsModel", name := "told", desc := "(I)I" } : Jvm.MethodName)) ∈ wA := kA (i := 1152) (by decide +kernel) rfl
theorem k_1153 : (Jvm.Cond.instanceMethod ({ cls := "ChordGrammarsModel", name := "told", desc := "(I)I" } : Jvm.MethodName)) ∈ wA := kA (i := 1153) (by decide +kernel) rfl
theorem k_1154 : (Jvm.Cond.selects "ChordGrammarsModel" ({ cls := "ChordGrammarsModel", name := "told", desc := "(I)I" } : Jvm.MethodName) ({ cls := "ChordGrammarsModel", name := "told", desc := "(I)I" } : Jvm.MethodName)) ∈ wA := kA (i := 1154) (by decide +kernel) rfl
theorem k_1155 : (Jvm.Cond.code ({ cls := "ChordGrammarsModel", name := "told", desc := "(I)I" } : Jvm.MethodName) prog_12_method_58_code (2 : Nat) (Option.some Jvm.ClassFile.FieldType.int)) ∈ wA := kA (i := 1155) (by decide +kernel) rfl
theorem k_1156 : (Jvm.Cond.constantLong "ChordGrammarsLaw" (29 : Nat) (4294967295 : Int64)) ∈ wA := kA (i := 1156) (by decide +kernel) rfl
theorem k_1158 : (Jvm.Cond.fieldLink "java/lang/String" (15 : Nat) "java/lang/String" "coder" "B") ∈ wA := kA (i := 1158) (by decide +kernel) rfl
theorem k_1159 : (Jvm.Cond.fieldLink "java/lang/String" (9 : Nat) "java/lang/String" "value" "[B") ∈ wA := kA (i := 1159) (by decide +kernel) rfl
theorem ks_0 : Cond.selects "ChordGrammars$Key" ({ cls := "ChordGrammars$Key", name := "change", desc := "(IZ)Z" } : MethodName) ({ cls := "ChordGrammars$Key", name := "change", desc := "(IZ)Z" } : MethodName) ∈ wA := kS (i := 0) (by decide +kernel) rfl
theorem ks_1 : Cond.selects "ChordGrammars$Tariff" ({ cls := "ChordGrammars$Tariff", name := "change", desc := "(II)Z" } : MethodName) ({ cls := "ChordGrammars$Tariff", name := "change", desc := "(II)Z" } : MethodName) ∈ wA := kS (i := 1) (by decide +kernel) rfl
theorem ks_2 : Cond.selects "ChordGrammars$Draft" ({ cls := "ChordGrammars$Draft", name := "extend", desc := "(IJ)I" } : MethodName) ({ cls := "ChordGrammars$Draft", name := "extend", desc := "(IJ)I" } : MethodName) ∈ wA := kS (i := 2) (by decide +kernel) rfl
theorem ks_3 : Cond.selects "ChordGrammars$Reader" ({ cls := "ChordGrammars$Reader", name := "readAll", desc := "(LChordGrammars$Draft;)I" } : MethodName) ({ cls := "ChordGrammars$Reader", name := "readAll", desc := "(LChordGrammars$Draft;)I" } : MethodName) ∈ wA := kS (i := 3) (by decide +kernel) rfl
theorem ks_4 : Cond.selects "ChordGrammars$Reader" ({ cls := "ChordGrammars$Reader", name := "nextOctet", desc := "(LChordGrammars$Draft;)I" } : MethodName) ({ cls := "ChordGrammars$Reader", name := "nextOctet", desc := "(LChordGrammars$Draft;)I" } : MethodName) ∈ wA := kS (i := 4) (by decide +kernel) rfl
theorem ks_5 : Cond.selects "ChordGrammars$Draft" ({ cls := "ChordGrammars$Draft", name := "octetAt", desc := "(I)I" } : MethodName) ({ cls := "ChordGrammars$Draft", name := "octetAt", desc := "(I)I" } : MethodName) ∈ wA := kS (i := 5) (by decide +kernel) rfl
theorem ks_6 : Cond.selects "ChordGrammars$Reader" ({ cls := "ChordGrammars$Reader", name := "readRule", desc := "(LChordGrammars$Draft;)Z" } : MethodName) ({ cls := "ChordGrammars$Reader", name := "readRule", desc := "(LChordGrammars$Draft;)Z" } : MethodName) ∈ wA := kS (i := 6) (by decide +kernel) rfl
theorem ks_7 : Cond.selects "ChordGrammars$Reader" ({ cls := "ChordGrammars$Reader", name := "takes", desc := "(LChordGrammars$Draft;I)Z" } : MethodName) ({ cls := "ChordGrammars$Reader", name := "takes", desc := "(LChordGrammars$Draft;I)Z" } : MethodName) ∈ wA := kS (i := 7) (by decide +kernel) rfl
theorem ks_8 : Cond.selects "ChordGrammars$Reader" ({ cls := "ChordGrammars$Reader", name := "readItem", desc := "(LChordGrammars$Draft;)I" } : MethodName) ({ cls := "ChordGrammars$Reader", name := "readItem", desc := "(LChordGrammars$Draft;)I" } : MethodName) ∈ wA := kS (i := 8) (by decide +kernel) rfl
theorem ks_9 : Cond.selects "ChordGrammars$Reader" ({ cls := "ChordGrammars$Reader", name := "readCost", desc := "(LChordGrammars$Draft;)I" } : MethodName) ({ cls := "ChordGrammars$Reader", name := "readCost", desc := "(LChordGrammars$Draft;)I" } : MethodName) ∈ wA := kS (i := 9) (by decide +kernel) rfl
theorem ks_10 : Cond.selects "ChordGrammars$Reader" ({ cls := "ChordGrammars$Reader", name := "findReach", desc := "()V" } : MethodName) ({ cls := "ChordGrammars$Reader", name := "findReach", desc := "()V" } : MethodName) ∈ wA := kS (i := 10) (by decide +kernel) rfl
theorem ks_11 : Cond.selects "ChordGrammars$Grammar" ({ cls := "ChordGrammars$Grammar", name := "renames", desc := "(I)Z" } : MethodName) ({ cls := "ChordGrammars$Grammar", name := "renames", desc := "(I)Z" } : MethodName) ∈ wA := kS (i := 11) (by decide +kernel) rfl
theorem ks_12 : Cond.selects "ChordGrammars$Reader" ({ cls := "ChordGrammars$Reader", name := "reaches", desc := "(II)Z" } : MethodName) ({ cls := "ChordGrammars$Reader", name := "reaches", desc := "(II)Z" } : MethodName) ∈ wA := kS (i := 12) (by decide +kernel) rfl
theorem ks_13 : Cond.selects "ChordGrammars$Reader" ({ cls := "ChordGrammars$Reader", name := "ringPlace", desc := "()I" } : MethodName) ({ cls := "ChordGrammars$Reader", name := "ringPlace", desc := "()I" } : MethodName) ∈ wA := kS (i := 13) (by decide +kernel) rfl
theorem ks_14 : Cond.selects "ChordGrammars$Reader" ({ cls := "ChordGrammars$Reader", name := "arrange", desc := "()V" } : MethodName) ({ cls := "ChordGrammars$Reader", name := "arrange", desc := "()V" } : MethodName) ∈ wA := kS (i := 14) (by decide +kernel) rfl
theorem ks_15 : Cond.selects "ChordGrammars$Grammar" ({ cls := "ChordGrammars$Grammar", name := "become", desc := "(LChordGrammars$Grammar;)V" } : MethodName) ({ cls := "ChordGrammars$Grammar", name := "become", desc := "(LChordGrammars$Grammar;)V" } : MethodName) ∈ wA := kS (i := 15) (by decide +kernel) rfl
theorem ks_16 : Cond.selects "ChordGrammars$Slots" ({ cls := "ChordGrammars$Slots", name := "add", desc := "(III)I" } : MethodName) ({ cls := "ChordGrammars$Slots", name := "add", desc := "(III)I" } : MethodName) ∈ wA := kS (i := 16) (by decide +kernel) rfl
theorem ks_17 : Cond.selects "ChordGrammars$Slots" ({ cls := "ChordGrammars$Slots", name := "has", desc := "(I)Z" } : MethodName) ({ cls := "ChordGrammars$Slots", name := "has", desc := "(I)Z" } : MethodName) ∈ wA := kS (i := 17) (by decide +kernel) rfl
theorem ks_18 : Cond.selects "ChordGrammars$Tariff" ({ cls := "ChordGrammars$Tariff", name := "ofFit", desc := "(IIII)I" } : MethodName) ({ cls := "ChordGrammars$Tariff", name := "ofFit", desc := "(IIII)I" } : MethodName) ∈ wA := kS (i := 18) (by decide +kernel) rfl
theorem ks_19 : Cond.selects "ChordGrammars$Tariff" ({ cls := "ChordGrammars$Tariff", name := "ofBass", desc := "(III)I" } : MethodName) ({ cls := "ChordGrammars$Tariff", name := "ofBass", desc := "(III)I" } : MethodName) ∈ wA := kS (i := 19) (by decide +kernel) rfl
theorem ks_20 : Cond.selects "ChordGrammars$Tariff" ({ cls := "ChordGrammars$Tariff", name := "cheapest", desc := "(II)I" } : MethodName) ({ cls := "ChordGrammars$Tariff", name := "cheapest", desc := "(II)I" } : MethodName) ∈ wA := kS (i := 20) (by decide +kernel) rfl
theorem ks_21 : Cond.selects "ChordGrammars$Chart" ({ cls := "ChordGrammars$Chart", name := "listAll", desc := "(LChordGrammars$Grammar;LChordGrammars$Slots;LChordGrammars$Key;LChordGrammars$Tariff;)V" } : MethodName) ({ cls := "ChordGrammars$Chart", name := "listAll", desc := "(LChordGrammars$Grammar;LChordGrammars$Slots;LChordGrammars$Key;LChordGrammars$Tariff;)V" } : MethodName) ∈ wA := kS (i := 21) (by decide +kernel) rfl
theorem ks_22 : Cond.selects "ChordGrammars$Symbols" ({ cls := "ChordGrammars$Symbols", name := "fill", desc := "(LChordGrammars$Slots;LChordGrammars$Key;LChordGrammars$Tariff;)V" } : MethodName) ({ cls := "ChordGrammars$Symbols", name := "fill", desc := "(LChordGrammars$Slots;LChordGrammars$Key;LChordGrammars$Tariff;)V" } : MethodName) ∈ wA := kS (i := 22) (by decide +kernel) rfl
theorem ks_23 : Cond.selects "ChordGrammars$Key" ({ cls := "ChordGrammars$Key", name := "rootOf", desc := "(I)I" } : MethodName) ({ cls := "ChordGrammars$Key", name := "rootOf", desc := "(I)I" } : MethodName) ∈ wA := kS (i := 23) (by decide +kernel) rfl
theorem ks_24 : Cond.selects "ChordGrammars$Symbols" ({ cls := "ChordGrammars$Symbols", name := "fillDegree", desc := "(LChordGrammars$Slots;IIILChordGrammars$Tariff;)V" } : MethodName) ({ cls := "ChordGrammars$Symbols", name := "fillDegree", desc := "(LChordGrammars$Slots;IIILChordGrammars$Tariff;)V" } : MethodName) ∈ wA := kS (i := 24) (by decide +kernel) rfl
theorem ks_25 : Cond.selects "ChordGrammars$Chart" ({ cls := "ChordGrammars$Chart", name := "fillSpan", desc := "(II)V" } : MethodName) ({ cls := "ChordGrammars$Chart", name := "fillSpan", desc := "(II)V" } : MethodName) ∈ wA := kS (i := 25) (by decide +kernel) rfl
theorem ks_26 : Cond.selects "ChordGrammars$Chart" ({ cls := "ChordGrammars$Chart", name := "addWhole", desc := "(III)V" } : MethodName) ({ cls := "ChordGrammars$Chart", name := "addWhole", desc := "(III)V" } : MethodName) ∈ wA := kS (i := 26) (by decide +kernel) rfl
theorem ks_27 : Cond.selects "ChordGrammars$Chart" ({ cls := "ChordGrammars$Chart", name := "sizeOf", desc := "(III)I" } : MethodName) ({ cls := "ChordGrammars$Chart", name := "sizeOf", desc := "(III)I" } : MethodName) ∈ wA := kS (i := 27) (by decide +kernel) rfl
theorem ks_28 : Cond.selects "ChordGrammars$Chart" ({ cls := "ChordGrammars$Chart", name := "chordOf", desc := "(II)I" } : MethodName) ({ cls := "ChordGrammars$Chart", name := "chordOf", desc := "(II)I" } : MethodName) ∈ wA := kS (i := 28) (by decide +kernel) rfl
theorem ks_29 : Cond.selects "ChordGrammars$Chart" ({ cls := "ChordGrammars$Chart", name := "countOf", desc := "(III)J" } : MethodName) ({ cls := "ChordGrammars$Chart", name := "countOf", desc := "(III)J" } : MethodName) ∈ wA := kS (i := 29) (by decide +kernel) rfl
theorem ks_30 : Cond.selects "ChordGrammars$Chart" ({ cls := "ChordGrammars$Chart", name := "priceOf", desc := "(IIII)I" } : MethodName) ({ cls := "ChordGrammars$Chart", name := "priceOf", desc := "(IIII)I" } : MethodName) ∈ wA := kS (i := 30) (by decide +kernel) rfl
theorem ks_31 : Cond.selects "ChordGrammars$Chart" ({ cls := "ChordGrammars$Chart", name := "entryAt", desc := "(IIII)J" } : MethodName) ({ cls := "ChordGrammars$Chart", name := "entryAt", desc := "(IIII)J" } : MethodName) ∈ wA := kS (i := 31) (by decide +kernel) rfl
theorem ks_32 : Cond.selects "ChordGrammars$Chart" ({ cls := "ChordGrammars$Chart", name := "offer", desc := "(IJ)Z" } : MethodName) ({ cls := "ChordGrammars$Chart", name := "offer", desc := "(IJ)Z" } : MethodName) ∈ wA := kS (i := 32) (by decide +kernel) rfl
theorem ks_33 : Cond.selects "ChordGrammars$Chart" ({ cls := "ChordGrammars$Chart", name := "addParts", desc := "(IIII)V" } : MethodName) ({ cls := "ChordGrammars$Chart", name := "addParts", desc := "(IIII)V" } : MethodName) ∈ wA := kS (i := 33) (by decide +kernel) rfl
theorem ks_34 : Cond.selects "ChordGrammars$Chart" ({ cls := "ChordGrammars$Chart", name := "listed", desc := "()I" } : MethodName) ({ cls := "ChordGrammars$Chart", name := "listed", desc := "()I" } : MethodName) ∈ wA := kS (i := 34) (by decide +kernel) rfl
theorem ks_35 : Cond.selects "ChordGrammars$Chart" ({ cls := "ChordGrammars$Chart", name := "wholeRow", desc := "()I" } : MethodName) ({ cls := "ChordGrammars$Chart", name := "wholeRow", desc := "()I" } : MethodName) ∈ wA := kS (i := 35) (by decide +kernel) rfl
theorem ks_36 : Cond.selects "ChordGrammars$Chart" ({ cls := "ChordGrammars$Chart", name := "countOfAll", desc := "()J" } : MethodName) ({ cls := "ChordGrammars$Chart", name := "countOfAll", desc := "()J" } : MethodName) ∈ wA := kS (i := 36) (by decide +kernel) rfl
theorem ks_37 : Cond.selects "ChordGrammars" ({ cls := "ChordGrammars", name := "isListed", desc := "(I)Z" } : MethodName) ({ cls := "ChordGrammars", name := "isListed", desc := "(I)Z" } : MethodName) ∈ wA := kS (i := 37) (by decide +kernel) rfl
theorem ks_38 : Cond.selects "ChordGrammars$Chart" ({ cls := "ChordGrammars$Chart", name := "priceOfWhole", desc := "(I)I" } : MethodName) ({ cls := "ChordGrammars$Chart", name := "priceOfWhole", desc := "(I)I" } : MethodName) ∈ wA := kS (i := 38) (by decide +kernel) rfl
theorem ks_39 : Cond.selects "ChordGrammars" ({ cls := "ChordGrammars", name := "treeOf", desc := "(I)LChordGrammars$Tree;" } : MethodName) ({ cls := "ChordGrammars", name := "treeOf", desc := "(I)LChordGrammars$Tree;" } : MethodName) ∈ wA := kS (i := 39) (by decide +kernel) rfl
theorem ks_40 : Cond.selects "ChordGrammars$Tree" ({ cls := "ChordGrammars$Tree", name := "walk", desc := "(LChordGrammars$Chart;I)V" } : MethodName) ({ cls := "ChordGrammars$Tree", name := "walk", desc := "(LChordGrammars$Chart;I)V" } : MethodName) ∈ wA := kS (i := 40) (by decide +kernel) rfl
theorem ks_41 : Cond.selects "ChordGrammars$Tree" ({ cls := "ChordGrammars$Tree", name := "push", desc := "(IIII)V" } : MethodName) ({ cls := "ChordGrammars$Tree", name := "push", desc := "(IIII)V" } : MethodName) ∈ wA := kS (i := 41) (by decide +kernel) rfl
theorem ks_42 : Cond.selects "ChordGrammars$Tree" ({ cls := "ChordGrammars$Tree", name := "visit", desc := "(LChordGrammars$Chart;II)V" } : MethodName) ({ cls := "ChordGrammars$Tree", name := "visit", desc := "(LChordGrammars$Chart;II)V" } : MethodName) ∈ wA := kS (i := 42) (by decide +kernel) rfl
theorem ks_43 : Cond.selects "ChordGrammars$Tree" ({ cls := "ChordGrammars$Tree", name := "pushParts", desc := "(LChordGrammars$Grammar;JII)V" } : MethodName) ({ cls := "ChordGrammars$Tree", name := "pushParts", desc := "(LChordGrammars$Grammar;JII)V" } : MethodName) ∈ wA := kS (i := 43) (by decide +kernel) rfl
theorem ks_44 : Cond.selects "ChordGrammars$Chart" ({ cls := "ChordGrammars$Chart", name := "hasSlot", desc := "(I)Z" } : MethodName) ({ cls := "ChordGrammars$Chart", name := "hasSlot", desc := "(I)Z" } : MethodName) ∈ wA := kS (i := 44) (by decide +kernel) rfl
theorem ks_45 : Cond.selects "ChordGrammars$Tree" ({ cls := "ChordGrammars$Tree", name := "degreeAt", desc := "(I)I" } : MethodName) ({ cls := "ChordGrammars$Tree", name := "degreeAt", desc := "(I)I" } : MethodName) ∈ wA := kS (i := 45) (by decide +kernel) rfl
theorem ks_46 : Cond.selects "ChordGrammars$Chart" ({ cls := "ChordGrammars$Chart", name := "pitchAt", desc := "(I)I" } : MethodName) ({ cls := "ChordGrammars$Chart", name := "pitchAt", desc := "(I)I" } : MethodName) ∈ wA := kS (i := 46) (by decide +kernel) rfl
theorem ks_47 : Cond.selects "java/lang/Throwable" ({ cls := "java/lang/Throwable", name := "fillInStackTrace", desc := "(I)Ljava/lang/Throwable;" } : MethodName) ({ cls := "java/lang/Throwable", name := "fillInStackTrace", desc := "(I)Ljava/lang/Throwable;" } : MethodName) ∈ wA := kS (i := 47) (by decide +kernel) rfl
theorem ks_48 : Cond.selects "ChordGrammarsModel" ({ cls := "ChordGrammarsModel", name := "blanks", desc := "()V" } : MethodName) ({ cls := "ChordGrammarsModel", name := "blanks", desc := "()V" } : MethodName) ∈ wA := kS (i := 48) (by decide +kernel) rfl
theorem ks_49 : Cond.selects "ChordGrammarsModel" ({ cls := "ChordGrammarsModel", name := "here", desc := "()I" } : MethodName) ({ cls := "ChordGrammarsModel", name := "here", desc := "()I" } : MethodName) ∈ wA := kS (i := 49) (by decide +kernel) rfl
theorem ks_50 : Cond.selects "ChordGrammarsModel" ({ cls := "ChordGrammarsModel", name := "stop", desc := "(I)V" } : MethodName) ({ cls := "ChordGrammarsModel", name := "stop", desc := "(I)V" } : MethodName) ∈ wA := kS (i := 50) (by decide +kernel) rfl
theorem ks_51 : Cond.selects "ChordGrammarsModel" ({ cls := "ChordGrammarsModel", name := "rule", desc := "()V" } : MethodName) ({ cls := "ChordGrammarsModel", name := "rule", desc := "()V" } : MethodName) ∈ wA := kS (i := 51) (by decide +kernel) rfl
theorem ks_52 : Cond.selects "ChordGrammarsModel" ({ cls := "ChordGrammarsModel", name := "isItem", desc := "()Z" } : MethodName) ({ cls := "ChordGrammarsModel", name := "isItem", desc := "()Z" } : MethodName) ∈ wA := kS (i := 52) (by decide +kernel) rfl
theorem ks_53 : Cond.selects "ChordGrammarsModel" ({ cls := "ChordGrammarsModel", name := "item", desc := "()I" } : MethodName) ({ cls := "ChordGrammarsModel", name := "item", desc := "()I" } : MethodName) ∈ wA := kS (i := 53) (by decide +kernel) rfl
theorem ks_54 : Cond.selects "ChordGrammarsModel" ({ cls := "ChordGrammarsModel", name := "figures", desc := "()I" } : MethodName) ({ cls := "ChordGrammarsModel", name := "figures", desc := "()I" } : MethodName) ∈ wA := kS (i := 54) (by decide +kernel) rfl
theorem ks_55 : Cond.selects "ChordGrammarsModel" ({ cls := "ChordGrammarsModel", name := "findRings", desc := "()V" } : MethodName) ({ cls := "ChordGrammarsModel", name := "findRings", desc := "()V" } : MethodName) ∈ wA := kS (i := 55) (by decide +kernel) rfl
theorem ks_56 : Cond.selects "ChordGrammarsModel" ({ cls := "ChordGrammarsModel", name := "isUnary", desc := "(I)Z" } : MethodName) ({ cls := "ChordGrammarsModel", name := "isUnary", desc := "(I)Z" } : MethodName) ∈ wA := kS (i := 56) (by decide +kernel) rfl
theorem ks_57 : Cond.selects "ChordGrammarsModel" ({ cls := "ChordGrammarsModel", name := "fits", desc := "(III)I" } : MethodName) ({ cls := "ChordGrammarsModel", name := "fits", desc := "(III)I" } : MethodName) ∈ wA := kS (i := 57) (by decide +kernel) rfl
theorem ks_58 : Cond.selects "ChordGrammarsModel" ({ cls := "ChordGrammarsModel", name := "readSymbols", desc := "()V" } : MethodName) ({ cls := "ChordGrammarsModel", name := "readSymbols", desc := "()V" } : MethodName) ∈ wA := kS (i := 58) (by decide +kernel) rfl
theorem ks_59 : Cond.selects "ChordGrammarsModel" ({ cls := "ChordGrammarsModel", name := "degree", desc := "(I)I" } : MethodName) ({ cls := "ChordGrammarsModel", name := "degree", desc := "(I)I" } : MethodName) ∈ wA := kS (i := 59) (by decide +kernel) rfl
theorem ks_60 : Cond.selects "ChordGrammarsModel" ({ cls := "ChordGrammarsModel", name := "order", desc := "()V" } : MethodName) ({ cls := "ChordGrammarsModel", name := "order", desc := "()V" } : MethodName) ∈ wA := kS (i := 60) (by decide +kernel) rfl
theorem ks_61 : Cond.selects "ChordGrammarsModel" ({ cls := "ChordGrammarsModel", name := "nameAt", desc := "(I)I" } : MethodName) ({ cls := "ChordGrammarsModel", name := "nameAt", desc := "(I)I" } : MethodName) ∈ wA := kS (i := 61) (by decide +kernel) rfl
theorem ks_62 : Cond.selects "ChordGrammarsModel" ({ cls := "ChordGrammarsModel", name := "one", desc := "(IIII)V" } : MethodName) ({ cls := "ChordGrammarsModel", name := "one", desc := "(IIII)V" } : MethodName) ∈ wA := kS (i := 62) (by decide +kernel) rfl
theorem ks_63 : Cond.selects "ChordGrammarsModel" ({ cls := "ChordGrammarsModel", name := "itemSize", desc := "(III)I" } : MethodName) ({ cls := "ChordGrammarsModel", name := "itemSize", desc := "(III)I" } : MethodName) ∈ wA := kS (i := 63) (by decide +kernel) rfl
theorem ks_64 : Cond.selects "ChordGrammarsModel" ({ cls := "ChordGrammarsModel", name := "itemCount", desc := "(III)J" } : MethodName) ({ cls := "ChordGrammarsModel", name := "itemCount", desc := "(III)J" } : MethodName) ∈ wA := kS (i := 64) (by decide +kernel) rfl
theorem ks_65 : Cond.selects "ChordGrammarsModel" ({ cls := "ChordGrammarsModel", name := "itemCost", desc := "(IIII)I" } : MethodName) ({ cls := "ChordGrammarsModel", name := "itemCost", desc := "(IIII)I" } : MethodName) ∈ wA := kS (i := 65) (by decide +kernel) rfl
theorem ks_66 : Cond.selects "ChordGrammarsModel" ({ cls := "ChordGrammarsModel", name := "comes", desc := "(III)Z" } : MethodName) ({ cls := "ChordGrammarsModel", name := "comes", desc := "(III)Z" } : MethodName) ∈ wA := kS (i := 66) (by decide +kernel) rfl
theorem ks_67 : Cond.selects "ChordGrammarsModel" ({ cls := "ChordGrammarsModel", name := "two", desc := "(IIII)V" } : MethodName) ({ cls := "ChordGrammarsModel", name := "two", desc := "(IIII)V" } : MethodName) ∈ wA := kS (i := 67) (by decide +kernel) rfl
theorem ks_68 : Cond.selects "ChordGrammarsModel" ({ cls := "ChordGrammarsModel", name := "listed", desc := "()I" } : MethodName) ({ cls := "ChordGrammarsModel", name := "listed", desc := "()I" } : MethodName) ∈ wA := kS (i := 68) (by decide +kernel) rfl
theorem ks_69 : Cond.selects "ChordGrammarsModel" ({ cls := "ChordGrammarsModel", name := "topCell", desc := "()I" } : MethodName) ({ cls := "ChordGrammarsModel", name := "topCell", desc := "()I" } : MethodName) ∈ wA := kS (i := 69) (by decide +kernel) rfl
theorem ks_70 : Cond.selects "ChordGrammarsModel" ({ cls := "ChordGrammarsModel", name := "noReading", desc := "(I)Z" } : MethodName) ({ cls := "ChordGrammarsModel", name := "noReading", desc := "(I)Z" } : MethodName) ∈ wA := kS (i := 70) (by decide +kernel) rfl
theorem ks_71 : Cond.selects "ChordGrammarsModel" ({ cls := "ChordGrammarsModel", name := "begin", desc := "(I)V" } : MethodName) ({ cls := "ChordGrammarsModel", name := "begin", desc := "(I)V" } : MethodName) ∈ wA := kS (i := 71) (by decide +kernel) rfl
theorem ks_72 : Cond.selects "ChordGrammarsModel" ({ cls := "ChordGrammarsModel", name := "later", desc := "(IIII)V" } : MethodName) ({ cls := "ChordGrammarsModel", name := "later", desc := "(IIII)V" } : MethodName) ∈ wA := kS (i := 72) (by decide +kernel) rfl
theorem ks_73 : Cond.selects "ChordGrammarsModel" ({ cls := "ChordGrammarsModel", name := "next", desc := "()Z" } : MethodName) ({ cls := "ChordGrammarsModel", name := "next", desc := "()Z" } : MethodName) ∈ wA := kS (i := 73) (by decide +kernel) rfl
theorem ks_74 : Cond.selects "ChordGrammarsModel" ({ cls := "ChordGrammarsModel", name := "nodeChord", desc := "()I" } : MethodName) ({ cls := "ChordGrammarsModel", name := "nodeChord", desc := "()I" } : MethodName) ∈ wA := kS (i := 74) (by decide +kernel) rfl
theorem ks_75 : Cond.selects "ChordGrammarsModel" ({ cls := "ChordGrammarsModel", name := "symbolAt", desc := "(II)I" } : MethodName) ({ cls := "ChordGrammarsModel", name := "symbolAt", desc := "(II)I" } : MethodName) ∈ wA := kS (i := 75) (by decide +kernel) rfl
theorem wsIn {ws : List Cond} (ps : List Nat) (hp : ws = ps.filterMap (fun i => tables_1[i]?)) (h : ws.all goodWord = true) : ∀ w ∈ ws, w ∈ wA := by
  intro w hw
  refine List.mem_filter.mpr ⟨List.mem_append_right _ ?_, List.all_eq_true.mp h w hw⟩
  rw [hp] at hw
  obtain ⟨i, -, hi⟩ := List.mem_filterMap.mp hw
  exact List.mem_of_getElem? hi
set_option maxRecDepth 100000 in
theorem iwX0 : ∀ w ∈ u_ws RX0 TX0 7, w ∈ wA := wsIn [198, 200, 202, 204, 206, 208, 210] (by decide +kernel) (by decide +kernel)
set_option maxRecDepth 100000 in
theorem iwX1 : ∀ w ∈ u_ws RX1 TX1 2, w ∈ wA := wsIn [94, 96] (by decide +kernel) (by decide +kernel)
set_option maxRecDepth 100000 in
theorem iwX2 : ∀ w ∈ u_ws RX2 TX2 6, w ∈ wA := wsIn [129, 131, 133, 135, 137, 139] (by decide +kernel) (by decide +kernel)
set_option maxRecDepth 100000 in
theorem iwX3 : ∀ w ∈ u_ws RX3 TX3 2, w ∈ wA := wsIn [41, 43] (by decide +kernel) (by decide +kernel)
set_option maxRecDepth 100000 in
theorem iwX4 : ∀ w ∈ u_ws RX4 TX4 4, w ∈ wA := wsIn [155, 157, 159, 161] (by decide +kernel) (by decide +kernel)
set_option maxRecDepth 100000 in
theorem iwX5 : ∀ w ∈ u_ws RX5 TX5 4, w ∈ wA := wsIn [75, 77, 79, 81] (by decide +kernel) (by decide +kernel)
set_option maxRecDepth 100000 in
theorem iwX6 : ∀ w ∈ u_ws RX6 TX6 2, w ∈ wA := wsIn [182, 184] (by decide +kernel) (by decide +kernel)
set_option maxRecDepth 100000 in
theorem iwX7 : ∀ w ∈ u_ws RX7 TX7 1, w ∈ wA := wsIn [53] (by decide +kernel) (by decide +kernel)
set_option maxRecDepth 100000 in
theorem iwX8 : ∀ w ∈ u_ws RX8 TX8 13, w ∈ wA := wsIn [240, 242, 244, 246, 248, 250, 252, 254, 256, 258, 260, 262, 264] (by decide +kernel) (by decide +kernel)
set_option maxRecDepth 100000 in
theorem iwX9 : ∀ w ∈ u_ws RX9 TX9 8, w ∈ wA := wsIn [275, 277, 279, 281, 283, 285, 287, 289] (by decide +kernel) (by decide +kernel)
set_option maxRecDepth 100000 in
theorem iwX10 : ∀ w ∈ u_ws RX10 TX10 48, w ∈ wA := wsIn [839, 841, 843, 845, 847, 849, 851, 853, 855, 857, 859, 861, 863, 865, 867, 869, 871, 873, 875, 877, 879, 881, 883, 885, 887, 889, 891, 893, 895, 897, 899, 901, 903, 905, 907, 909, 911, 913, 915, 917, 919, 921, 923, 925, 927, 929, 931, 933] (by decide +kernel) (by decide +kernel)
set_option maxRecDepth 100000 in
theorem iwJx00060 : ∀ w ∈ u_ws RJx00060 TJx00060 6, w ∈ wA := wsIn [726, 728, 730, 732, 734, 779] (by decide +kernel) (by decide +kernel)
end
section
/-! the two states, and the rows' words -/
abbrev Ev : Type := va_G × (Nat → ClassId) × (Nat → Nat)
abbrev St : Type := (Nat → Nat → Int32) × (Nat → Nat → Int64)
def sI (σ : St) (k i : Nat) (x : Int32) : St := (fun c => if c = k then upd (σ.1 c) i x else σ.1 c, σ.2)
def sJ (σ : St) (k i : Nat) (x : Int64) : St := (σ.1, fun c => if c = k then vp_updL (σ.2 c) i x else σ.2 c)
def sC (σ : St) (k : Nat) (f : Nat → Int32) : St := (fun c => if c = k then f else σ.1 c, σ.2)
def tyE (E : Ev) : List (ClassId × FieldType) := [(E.2.1 0, .byte), (E.2.1 1, .int), (E.2.1 2, .long), (E.2.1 3, .boolean)]
/-- guards of a lifted method: an index, a divisor, a truth value -/
def gd {α : Type} (i : Int32) (n : Nat) (x : Option α) : Option α := if i < 0 ∨ n ≤ i.toNatClampNeg then none else x
def gz {α : Type} (y : Int32) (x : Option α) : Option α := if y = 0 then none else x
def gb {α : Type} (v : Int32) (x : Option α) : Option α := if v = 0 ∨ v = 1 then x else none
def lt {α β : Type} (e : α) (f : α → β) : β := f e
def bd {α β : Type} (o : Option (α × St)) (f : α → St → Option β) : Option β := match o with
  | none => none
  | some q => f q.1 q.2
def bp {α β : Type} (o : Option α) (f : α → Option β) : Option β := match o with
  | none => none
  | some q => f q
theorem gd_ok {α : Type} {i : Int32} {n : Nat} {x : Option α} {r : α} (h : gd i n x = some r) : vp_in i n ∧ x = some r := by
  unfold gd at h
  split at h
  · cases h
  · exact ⟨by assumption, h⟩
theorem gz_ok {α : Type} {y : Int32} {x : Option α} {r : α} (h : gz y x = some r) : ¬ y = 0 ∧ x = some r := by
  unfold gz at h
  split at h
  · cases h
  · exact ⟨by assumption, h⟩
theorem gb_ok {α : Type} {v : Int32} {x : Option α} {r : α} (h : gb v x = some r) : (v = 0 ∨ v = 1) ∧ x = some r := by
  unfold gb at h
  split at h
  · exact ⟨by assumption, h⟩
  · cases h
theorem lt_ok {α β : Type} {e : α} {f : α → Option β} {r : β} (h : lt e f = some r) : ∃ y, y = e ∧ f y = some r := ⟨e, rfl, h⟩
theorem bd_ok {α β : Type} {o : Option (α × St)} {f : α → St → Option β} {r : β} (h : bd o f = some r) : ∃ v u, o = some (v, u) ∧ f v u = some r := by
  cases o with
  | none => cases h
  | some q => exact ⟨q.1, q.2, rfl, h⟩
theorem bp_ok {α β : Type} {o : Option α} {f : α → Option β} {r : β} (h : bp o f = some r) : ∃ v, o = some v ∧ f v = some r := by
  cases o with
  | none => cases h
  | some q => exact ⟨q, rfl, h⟩
theorem if_t {α : Type} {c : Prop} {hd : Decidable c} {a b : Option α} {r : α} (hc : c) (h : @ite _ c hd a b = some r) : a = some r := by rw [if_pos hc] at h; exact h
theorem if_f {α : Type} {c : Prop} {hd : Decidable c} {a b : Option α} {r : α} (hc : ¬ c) (h : @ite _ c hd a b = some r) : b = some r := by rw [if_neg hc] at h; exact h
theorem nb01 {v : Int32} (h : v = 0 ∨ v = 1) : narrow .boolean (.int v) = .int v := by rcases h with rfl | rfl <;> rfl
theorem fb01 {v : Int32} (h : v = 0 ∨ v = 1) : fits .boolean (.int v) = true := by rcases h with rfl | rfl <;> rfl
theorem ne_ti {x y : Int32} (h : ¬ x = y) : x.toInt ≠ y.toInt := fun e => h (Int32.toInt_inj.mp e)
/-- the reference: its object, its rows: field k of the object is (σ.1 k 0), row k is σ.1 k or σ.2 k -/
def wldM (E : Ev) (σ : St) : va_W := [(E.2.2 1000, .inr (11, [.int (σ.1 0 0), .int (σ.1 1 0), .int (σ.1 2 0), .ref (E.2.2 3), .ref (E.2.2 4), .int (σ.1 5 0), .int (σ.1 6 0), .ref (E.2.2 7), .ref (E.2.2 8), .ref (E.2.2 9), .int (σ.1 10 0), .ref (E.2.2 11), .ref (E.2.2 12), .ref (E.2.2 13), .ref (E.2.2 14), .int (σ.1 15 0), .ref (E.2.2 16), .ref (E.2.2 17), .ref (E.2.2 18), .ref (E.2.2 19), .ref (E.2.2 20), .int (σ.1 21 0), .int (σ.1 22 0), .ref (E.2.2 23), .int (σ.1 24 0), .int (σ.1 25 0), .ref (E.2.2 26), .ref (E.2.2 27), .ref (E.2.2 28), .ref (E.2.2 29), .ref (E.2.2 30), .ref (E.2.2 31), .ref (E.2.2 32), .ref (E.2.2 33), .ref (E.2.2 34), .ref (E.2.2 35), .ref (E.2.2 36), .ref (E.2.2 37), .int (σ.1 38 0), .ref (E.2.2 39), .ref (E.2.2 40), .ref (E.2.2 41), .ref (E.2.2 42), .int (σ.1 43 0), .int (σ.1 44 0), .int (σ.1 45 0), .int (σ.1 46 0), .int (σ.1 47 0)])), (E.2.2 3, .inl (E.2.1 1, 4, .inl (σ.1 3))), (E.2.2 4, .inl (E.2.1 1, 800, .inl (σ.1 4))), (E.2.2 7, .inl (E.2.1 1, 24, .inl (σ.1 7))), (E.2.2 8, .inl (E.2.1 1, 24, .inl (σ.1 8))), (E.2.2 9, .inl (E.2.1 1, 24, .inl (σ.1 9))), (E.2.2 11, .inl (E.2.1 1, 60, .inl (σ.1 11))), (E.2.2 12, .inl (E.2.1 1, 60, .inl (σ.1 12))), (E.2.2 13, .inl (E.2.1 1, 60, .inl (σ.1 13))), (E.2.2 14, .inl (E.2.1 1, 60, .inl (σ.1 14))), (E.2.2 16, .inl (E.2.1 1, 61, .inl (σ.1 16))), (E.2.2 17, .inl (E.2.1 1, 61, .inl (σ.1 17))), (E.2.2 18, .inl (E.2.1 1, 61, .inl (σ.1 18))), (E.2.2 19, .inl (E.2.1 1, 61, .inl (σ.1 19))), (E.2.2 20, .inl (E.2.1 1, 61, .inl (σ.1 20))), (E.2.2 23, .inl (E.2.1 3, 676, .inl (σ.1 23))), (E.2.2 26, .inl (E.2.1 1, 60, .inl (σ.1 26))), (E.2.2 27, .inl (E.2.1 1, 60, .inl (σ.1 27))), (E.2.2 28, .inl (E.2.1 1, 60, .inl (σ.1 28))), (E.2.2 29, .inl (E.2.1 1, 60, .inl (σ.1 29))), (E.2.2 30, .inl (E.2.1 1, 24, .inl (σ.1 30))), (E.2.2 31, .inl (E.2.1 1, 1920, .inl (σ.1 31))), (E.2.2 32, .inl (E.2.1 1, 1920, .inl (σ.1 32))), (E.2.2 33, .inl (E.2.1 1, 7800, .inl (σ.1 33))), (E.2.2 34, .inl (E.2.1 2, 7800, .inr (.inl (σ.2 34)))), (E.2.2 35, .inl (E.2.1 1, 234000, .inl (σ.1 35))), (E.2.2 36, .inl (E.2.1 1, 234000, .inl (σ.1 36))), (E.2.2 37, .inl (E.2.1 1, 26, .inl (σ.1 37))), (E.2.2 39, .inl (E.2.1 1, 64, .inl (σ.1 39))), (E.2.2 40, .inl (E.2.1 1, 64, .inl (σ.1 40))), (E.2.2 41, .inl (E.2.1 1, 64, .inl (σ.1 41))), (E.2.2 42, .inl (E.2.1 1, 64, .inl (σ.1 42)))]
def CxM (p : Program) (s : State) (m : MethodId) (args : Array Value) (c : Code) (cc : ByteArray) : Prop := p.tables.exec = Jvm.exec ∧ c.code = cc ∧ s.vm.findClass RX10 = some m.cls ∧ ∀ w ∈ wA, w.before args s = true
def okM (E : Ev) (_ : Nat → Prop) (U : State) : Prop := va_K E.1 vwCl (tyE E) U
def wsM (E : Ev) (σ : St) (A : Nat → Prop) (s : State) (H : Heap) (locs : List Loc) : Prop := va_P E.1 vwCl (wldM E σ) H ∧ va_D A (wldM E σ) ∧ va_S A s.heap H locs
def PwM (E : Ev) (As : List Value) (σ : St) (sz : Nat) : Array Value → State → Prop := va_Pc As (fun U => U.heap.size = sz ∧ va_P E.1 vwCl (wldM E σ) U.heap ∧ va_D (fun _ => True) (wldM E σ) ∧ okM E (va_A (wldM E σ) sz) U)
def QiM (E : Ev) (σ σ' : St) (sz : Nat) (r : Int32) : Array Value → State → Outcome → State → Prop := va_Qi (fun (r2 : Int32) (_ : Unit) => r2 = r) (fun _ t => va_P E.1 vwCl (wldM E σ') t.heap ∧ va_D (va_A (wldM E σ) sz) (wldM E σ')) (va_A (wldM E σ) sz)
def QlM (E : Ev) (σ σ' : St) (sz : Nat) (r : Int64) : Array Value → State → Outcome → State → Prop := va_Ql (fun (r2 : Int64) (_ : Unit) => r2 = r) (fun _ t => va_P E.1 vwCl (wldM E σ') t.heap ∧ va_D (va_A (wldM E σ) sz) (wldM E σ')) (va_A (wldM E σ) sz)
def QvM (E : Ev) (σ σ' : St) (sz : Nat) : Array Value → State → Outcome → State → Prop := va_Qv (fun (_ : Unit) => True) (fun _ t => va_P E.1 vwCl (wldM E σ') t.heap ∧ va_D (va_A (wldM E σ) sz) (wldM E σ')) (va_A (wldM E σ) sz)
theorem PwM_blind {E : Ev} {As : List Value} {σ : St} {sz : Nat} : FrameBlind (PwM E As σ sz) := fun a U g mk q => by
  obtain ⟨q0, q1, qP, qD, qK⟩ := q
  exact ⟨q0, q1, qP, qD, va_K.moved (u := U) (U := U.calling g mk a) (Vm.Alike.refl U.vm) qK⟩
section
variable {p : Program} {l : Launch} {e : Env} {R : Room} {s : State} {m : MethodId} {args : Array Value} {below : List Frame} {meth : Method} {c : Code} {H : Heap} {locs : List Loc} {cells slots : Nat} {Q : State → Prop} {cc : ByteArray} {pc : Nat} {ls : Array Slot} {rest : List Value} {A : Nat → Prop} {E : Ev} {σ : St}
theorem ti_eq {x y : Int32} (h : y = x) (k : W p l e R s m args below meth c H locs cells slots Q (F0 m pc ls (.int y :: rest))) : W p l e R s m args below meth c H locs cells slots Q (F0 m pc ls (.int x :: rest)) := by rw [← h]; exact k
theorem tl_eq {x y : Int64} (h : y = x) (k : W p l e R s m args below meth c H locs cells slots Q (F0 m pc ls (.long y :: rest))) : W p l e R s m args below meth c H locs cells slots Q (F0 m pc ls (.long x :: rest)) := by rw [← h]; exact k
theorem wsM_eq {σ' : St} (h : σ' = σ) (hw : wsM E σ A s H locs) : wsM E σ' A s H locs := by rw [h]; exact hw
theorem gtM_0 (cx : CxM p s m args c cc) (ok : okM E A s) (hw : wsM E σ A s H locs) (hdg : decode cc pc = .ok (.getfield 106, 3)) (kk : W p l e R s m args below meth c H locs cells slots Q (F0 m (pc + 3) ls (.int (σ.1 0 0) :: rest))) : W p l e R s m args below meth c H locs cells slots Q (F0 m pc ls (.ref (E.2.2 1000) :: rest)) := va_get (D := E.1) (ci := 11) (C := RX10) (T := TX10) (N := 48) cx.1 cx.2.1 cx.2.2.2 iwX10 cx.2.2.1 ok hw.1 0 rfl rfl 0 (by decide) (cx.2.2.2 _ k_791) (fun _ h9 => h9) rfl hdg kk
theorem ptM_0 (cx : CxM p s m args c cc) (ok : okM E A s) (hw : wsM E σ A s H locs) {x : Int32} (hdg : decode cc pc = .ok (.putfield 106, 3)) (kk : ∀ (H1 : Heap) (locs1 : List Loc), wsM E (sI σ 0 0 x) A s H1 locs1 → W p l e R s m args below meth c H1 locs1 cells slots Q (F0 m (pc + 3) ls (rest))) : W p l e R s m args below meth c H locs cells slots Q (F0 m pc ls (.int x :: .ref (E.2.2 1000) :: rest)) := va_put (D := E.1) (ci := 11) (v := .int x) (ty := .int) (C := RX10) (T := TX10) (N := 48) cx.1 cx.2.1 cx.2.2.2 iwX10 tyX10 tyX10_ok nmX10 cx.2.2.1 ok hw.1 hw.2.1 hw.2.2 0 rfl rfl 0 (by decide) (cx.2.2.2 _ k_791) (fun _ h9 => h9) rfl (by decide +kernel) rfl rfl (Nat.le_of_ble_eq_true rfl) hdg (fun H1 locs1 hP hD hS => kk H1 locs1 ⟨hP, hD, hS⟩)
theorem gtM_1 (cx : CxM p s m args c cc) (ok : okM E A s) (hw : wsM E σ A s H locs) (hdg : decode cc pc = .ok (.getfield 110, 3)) (kk : W p l e R s m args below meth c H locs cells slots Q (F0 m (pc + 3) ls (.int (σ.1 1 0) :: rest))) : W p l e R s m args below meth c H locs cells slots Q (F0 m pc ls (.ref (E.2.2 1000) :: rest)) := va_get (D := E.1) (ci := 11) (C := RX10) (T := TX10) (N := 48) cx.1 cx.2.1 cx.2.2.2 iwX10 cx.2.2.1 ok hw.1 0 rfl rfl 1 (by decide) (cx.2.2.2 _ k_792) (fun _ h9 => h9) rfl hdg kk
theorem ptM_1 (cx : CxM p s m args c cc) (ok : okM E A s) (hw : wsM E σ A s H locs) {x : Int32} (hdg : decode cc pc = .ok (.putfield 110, 3)) (kk : ∀ (H1 : Heap) (locs1 : List Loc), wsM E (sI σ 1 0 x) A s H1 locs1 → W p l e R s m args below meth c H1 locs1 cells slots Q (F0 m (pc + 3) ls (rest))) : W p l e R s m args below meth c H locs cells slots Q (F0 m pc ls (.int x :: .ref (E.2.2 1000) :: rest)) := va_put (D := E.1) (ci := 11) (v := .int x) (ty := .int) (C := RX10) (T := TX10) (N := 48) cx.1 cx.2.1 cx.2.2.2 iwX10 tyX10 tyX10_ok nmX10 cx.2.2.1 ok hw.1 hw.2.1 hw.2.2 0 rfl rfl 1 (by decide) (cx.2.2.2 _ k_792) (fun _ h9 => h9) rfl (by decide +kernel) rfl rfl (Nat.le_of_ble_eq_true rfl) hdg (fun H1 locs1 hP hD hS => kk H1 locs1 ⟨hP, hD, hS⟩)
theorem gtM_2 (cx : CxM p s m args c cc) (ok : okM E A s) (hw : wsM E σ A s H locs) (hdg : decode cc pc = .ok (.getfield 113, 3)) (kk : W p l e R s m args below meth c H locs cells slots Q (F0 m (pc + 3) ls (.int (σ.1 2 0) :: rest))) : W p l e R s m args below meth c H locs cells slots Q (F0 m pc ls (.ref (E.2.2 1000) :: rest)) := va_get (D := E.1) (ci := 11) (C := RX10) (T := TX10) (N := 48) cx.1 cx.2.1 cx.2.2.2 iwX10 cx.2.2.1 ok hw.1 0 rfl rfl 2 (by decide) (cx.2.2.2 _ k_793) (fun _ h9 => h9) rfl hdg kk
theorem ptM_2 (cx : CxM p s m args c cc) (ok : okM E A s) (hw : wsM E σ A s H locs) {x : Int32} (h01 : x = 0 ∨ x = 1) (hdg : decode cc pc = .ok (.putfield 113, 3)) (kk : ∀ (H1 : Heap) (locs1 : List Loc), wsM E (sI σ 2 0 x) A s H1 locs1 → W p l e R s m args below meth c H1 locs1 cells slots Q (F0 m (pc + 3) ls (rest))) : W p l e R s m args below meth c H locs cells slots Q (F0 m pc ls (.int x :: .ref (E.2.2 1000) :: rest)) := va_put (D := E.1) (ci := 11) (v := .int x) (ty := .boolean) (C := RX10) (T := TX10) (N := 48) cx.1 cx.2.1 cx.2.2.2 iwX10 tyX10 tyX10_ok nmX10 cx.2.2.1 ok hw.1 hw.2.1 hw.2.2 0 rfl rfl 2 (by decide) (cx.2.2.2 _ k_793) (fun _ h9 => h9) rfl (by decide +kernel) (nb01 h01) (fb01 h01) (Nat.le_of_ble_eq_true rfl) hdg (fun H1 locs1 hP hD hS => kk H1 locs1 ⟨hP, hD, hS⟩)
theorem gtM_3 (cx : CxM p s m args c cc) (ok : okM E A s) (hw : wsM E σ A s H locs) (hdg : decode cc pc = .ok (.getfield 7, 3)) (kk : W p l e R s m args below meth c H locs cells slots Q (F0 m (pc + 3) ls (.ref (E.2.2 3) :: rest))) : W p l e R s m args below meth c H locs cells slots Q (F0 m pc ls (.ref (E.2.2 1000) :: rest)) := va_get (D := E.1) (ci := 11) (C := RX10) (T := TX10) (N := 48) cx.1 cx.2.1 cx.2.2.2 iwX10 cx.2.2.1 ok hw.1 0 rfl rfl 3 (by decide) (cx.2.2.2 _ k_794) (fun _ h9 => h9) rfl hdg kk
theorem gtM_4 (cx : CxM p s m args c cc) (ok : okM E A s) (hw : wsM E σ A s H locs) (hdg : decode cc pc = .ok (.getfield 13, 3)) (kk : W p l e R s m args below meth c H locs cells slots Q (F0 m (pc + 3) ls (.ref (E.2.2 4) :: rest))) : W p l e R s m args below meth c H locs cells slots Q (F0 m pc ls (.ref (E.2.2 1000) :: rest)) := va_get (D := E.1) (ci := 11) (C := RX10) (T := TX10) (N := 48) cx.1 cx.2.1 cx.2.2.2 iwX10 cx.2.2.1 ok hw.1 0 rfl rfl 4 (by decide) (cx.2.2.2 _ k_795) (fun _ h9 => h9) rfl hdg kk
theorem gtM_5 (cx : CxM p s m args c cc) (ok : okM E A s) (hw : wsM E σ A s H locs) (hdg : decode cc pc = .ok (.getfield 117, 3)) (kk : W p l e R s m args below meth c H locs cells slots Q (F0 m (pc + 3) ls (.int (σ.1 5 0) :: rest))) : W p l e R s m args below meth c H locs cells slots Q (F0 m pc ls (.ref (E.2.2 1000) :: rest)) := va_get (D := E.1) (ci := 11) (C := RX10) (T := TX10) (N := 48) cx.1 cx.2.1 cx.2.2.2 iwX10 cx.2.2.1 ok hw.1 0 rfl rfl 5 (by decide) (cx.2.2.2 _ k_796) (fun _ h9 => h9) rfl hdg kk
theorem ptM_5 (cx : CxM p s m args c cc) (ok : okM E A s) (hw : wsM E σ A s H locs) {x : Int32} (hdg : decode cc pc = .ok (.putfield 117, 3)) (kk : ∀ (H1 : Heap) (locs1 : List Loc), wsM E (sI σ 5 0 x) A s H1 locs1 → W p l e R s m args below meth c H1 locs1 cells slots Q (F0 m (pc + 3) ls (rest))) : W p l e R s m args below meth c H locs cells slots Q (F0 m pc ls (.int x :: .ref (E.2.2 1000) :: rest)) := va_put (D := E.1) (ci := 11) (v := .int x) (ty := .int) (C := RX10) (T := TX10) (N := 48) cx.1 cx.2.1 cx.2.2.2 iwX10 tyX10 tyX10_ok nmX10 cx.2.2.1 ok hw.1 hw.2.1 hw.2.2 0 rfl rfl 5 (by decide) (cx.2.2.2 _ k_796) (fun _ h9 => h9) rfl (by decide +kernel) rfl rfl (Nat.le_of_ble_eq_true rfl) hdg (fun H1 locs1 hP hD hS => kk H1 locs1 ⟨hP, hD, hS⟩)
theorem gtM_6 (cx : CxM p s m args c cc) (ok : okM E A s) (hw : wsM E σ A s H locs) (hdg : decode cc pc = .ok (.getfield 175, 3)) (kk : W p l e R s m args below meth c H locs cells slots Q (F0 m (pc + 3) ls (.int (σ.1 6 0) :: rest))) : W p l e R s m args below meth c H locs cells slots Q (F0 m pc ls (.ref (E.2.2 1000) :: rest)) := va_get (D := E.1) (ci := 11) (C := RX10) (T := TX10) (N := 48) cx.1 cx.2.1 cx.2.2.2 iwX10 cx.2.2.1 ok hw.1 0 rfl rfl 6 (by decide) (cx.2.2.2 _ k_797) (fun _ h9 => h9) rfl hdg kk
theorem ptM_6 (cx : CxM p s m args c cc) (ok : okM E A s) (hw : wsM E σ A s H locs) {x : Int32} (hdg : decode cc pc = .ok (.putfield 175, 3)) (kk : ∀ (H1 : Heap) (locs1 : List Loc), wsM E (sI σ 6 0 x) A s H1 locs1 → W p l e R s m args below meth c H1 locs1 cells slots Q (F0 m (pc + 3) ls (rest))) : W p l e R s m args below meth c H locs cells slots Q (F0 m pc ls (.int x :: .ref (E.2.2 1000) :: rest)) := va_put (D := E.1) (ci := 11) (v := .int x) (ty := .int) (C := RX10) (T := TX10) (N := 48) cx.1 cx.2.1 cx.2.2.2 iwX10 tyX10 tyX10_ok nmX10 cx.2.2.1 ok hw.1 hw.2.1 hw.2.2 0 rfl rfl 6 (by decide) (cx.2.2.2 _ k_797) (fun _ h9 => h9) rfl (by decide +kernel) rfl rfl (Nat.le_of_ble_eq_true rfl) hdg (fun H1 locs1 hP hD hS => kk H1 locs1 ⟨hP, hD, hS⟩)
theorem gtM_7 (cx : CxM p s m args c cc) (ok : okM E A s) (hw : wsM E σ A s H locs) (hdg : decode cc pc = .ok (.getfield 16, 3)) (kk : W p l e R s m args below meth c H locs cells slots Q (F0 m (pc + 3) ls (.ref (E.2.2 7) :: rest))) : W p l e R s m args below meth c H locs cells slots Q (F0 m pc ls (.ref (E.2.2 1000) :: rest)) := va_get (D := E.1) (ci := 11) (C := RX10) (T := TX10) (N := 48) cx.1 cx.2.1 cx.2.2.2 iwX10 cx.2.2.1 ok hw.1 0 rfl rfl 7 (by decide) (cx.2.2.2 _ k_798) (fun _ h9 => h9) rfl hdg kk
theorem gtM_8 (cx : CxM p s m args c cc) (ok : okM E A s) (hw : wsM E σ A s H locs) (hdg : decode cc pc = .ok (.getfield 19, 3)) (kk : W p l e R s m args below meth c H locs cells slots Q (F0 m (pc + 3) ls (.ref (E.2.2 8) :: rest))) : W p l e R s m args below meth c H locs cells slots Q (F0 m pc ls (.ref (E.2.2 1000) :: rest)) := va_get (D := E.1) (ci := 11) (C := RX10) (T := TX10) (N := 48) cx.1 cx.2.1 cx.2.2.2 iwX10 cx.2.2.1 ok hw.1 0 rfl rfl 8 (by decide) (cx.2.2.2 _ k_799) (fun _ h9 => h9) rfl hdg kk
theorem gtM_9 (cx : CxM p s m args c cc) (ok : okM E A s) (hw : wsM E σ A s H locs) (hdg : decode cc pc = .ok (.getfield 22, 3)) (kk : W p l e R s m args below meth c H locs cells slots Q (F0 m (pc + 3) ls (.ref (E.2.2 9) :: rest))) : W p l e R s m args below meth c H locs cells slots Q (F0 m pc ls (.ref (E.2.2 1000) :: rest)) := va_get (D := E.1) (ci := 11) (C := RX10) (T := TX10) (N := 48) cx.1 cx.2.1 cx.2.2.2 iwX10 cx.2.2.1 ok hw.1 0 rfl rfl 9 (by decide) (cx.2.2.2 _ k_800) (fun _ h9 => h9) rfl hdg kk
theorem gtM_10 (cx : CxM p s m args c cc) (ok : okM E A s) (hw : wsM E σ A s H locs) (hdg : decode cc pc = .ok (.getfield 172, 3)) (kk : W p l e R s m args below meth c H locs cells slots Q (F0 m (pc + 3) ls (.int (σ.1 10 0) :: rest))) : W p l e R s m args below meth c H locs cells slots Q (F0 m pc ls (.ref (E.2.2 1000) :: rest)) := va_get (D := E.1) (ci := 11) (C := RX10) (T := TX10) (N := 48) cx.1 cx.2.1 cx.2.2.2 iwX10 cx.2.2.1 ok hw.1 0 rfl rfl 10 (by decide) (cx.2.2.2 _ k_801) (fun _ h9 => h9) rfl hdg kk
theorem ptM_10 (cx : CxM p s m args c cc) (ok : okM E A s) (hw : wsM E σ A s H locs) {x : Int32} (hdg : decode cc pc = .ok (.putfield 172, 3)) (kk : ∀ (H1 : Heap) (locs1 : List Loc), wsM E (sI σ 10 0 x) A s H1 locs1 → W p l e R s m args below meth c H1 locs1 cells slots Q (F0 m (pc + 3) ls (rest))) : W p l e R s m args below meth c H locs cells slots Q (F0 m pc ls (.int x :: .ref (E.2.2 1000) :: rest)) := va_put (D := E.1) (ci := 11) (v := .int x) (ty := .int) (C := RX10) (T := TX10) (N := 48) cx.1 cx.2.1 cx.2.2.2 iwX10 tyX10 tyX10_ok nmX10 cx.2.2.1 ok hw.1 hw.2.1 hw.2.2 0 rfl rfl 10 (by decide) (cx.2.2.2 _ k_801) (fun _ h9 => h9) rfl (by decide +kernel) rfl rfl (Nat.le_of_ble_eq_true rfl) hdg (fun H1 locs1 hP hD hS => kk H1 locs1 ⟨hP, hD, hS⟩)
theorem gtM_11 (cx : CxM p s m args c cc) (ok : okM E A s) (hw : wsM E σ A s H locs) (hdg : decode cc pc = .ok (.getfield 25, 3)) (kk : W p l e R s m args below meth c H locs cells slots Q (F0 m (pc + 3) ls (.ref (E.2.2 11) :: rest))) : W p l e R s m args below meth c H locs cells slots Q (F0 m pc ls (.ref (E.2.2 1000) :: rest)) := va_get (D := E.1) (ci := 11) (C := RX10) (T := TX10) (N := 48) cx.1 cx.2.1 cx.2.2.2 iwX10 cx.2.2.1 ok hw.1 0 rfl rfl 11 (by decide) (cx.2.2.2 _ k_802) (fun _ h9 => h9) rfl hdg kk
theorem gtM_12 (cx : CxM p s m args c cc) (ok : okM E A s) (hw : wsM E σ A s H locs) (hdg : decode cc pc = .ok (.getfield 28, 3)) (kk : W p l e R s m args below meth c H locs cells slots Q (F0 m (pc + 3) ls (.ref (E.2.2 12) :: rest))) : W p l e R s m args below meth c H locs cells slots Q (F0 m pc ls (.ref (E.2.2 1000) :: rest)) := va_get (D := E.1) (ci := 11) (C := RX10) (T := TX10) (N := 48) cx.1 cx.2.1 cx.2.2.2 iwX10 cx.2.2.1 ok hw.1 0 rfl rfl 12 (by decide) (cx.2.2.2 _ k_803) (fun _ h9 => h9) rfl hdg kk
theorem gtM_13 (cx : CxM p s m args c cc) (ok : okM E A s) (hw : wsM E σ A s H locs) (hdg : decode cc pc = .ok (.getfield 31, 3)) (kk : W p l e R s m args below meth c H locs cells slots Q (F0 m (pc + 3) ls (.ref (E.2.2 13) :: rest))) : W p l e R s m args below meth c H locs cells slots Q (F0 m pc ls (.ref (E.2.2 1000) :: rest)) := va_get (D := E.1) (ci := 11) (C := RX10) (T := TX10) (N := 48) cx.1 cx.2.1 cx.2.2.2 iwX10 cx.2.2.1 ok hw.1 0 rfl rfl 13 (by decide) (cx.2.2.2 _ k_804) (fun _ h9 => h9) rfl hdg kk
theorem gtM_14 (cx : CxM p s m args c cc) (ok : okM E A s) (hw : wsM E σ A s H locs) (hdg : decode cc pc = .ok (.getfield 34, 3)) (kk : W p l e R s m args below meth c H locs cells slots Q (F0 m (pc + 3) ls (.ref (E.2.2 14) :: rest))) : W p l e R s m args below meth c H locs cells slots Q (F0 m pc ls (.ref (E.2.2 1000) :: rest)) := va_get (D := E.1) (ci := 11) (C := RX10) (T := TX10) (N := 48) cx.1 cx.2.1 cx.2.2.2 iwX10 cx.2.2.1 ok hw.1 0 rfl rfl 14 (by decide) (cx.2.2.2 _ k_805) (fun _ h9 => h9) rfl hdg kk
theorem gtM_15 (cx : CxM p s m args c cc) (ok : okM E A s) (hw : wsM E σ A s H locs) (hdg : decode cc pc = .ok (.getfield 147, 3)) (kk : W p l e R s m args below meth c H locs cells slots Q (F0 m (pc + 3) ls (.int (σ.1 15 0) :: rest))) : W p l e R s m args below meth c H locs cells slots Q (F0 m pc ls (.ref (E.2.2 1000) :: rest)) := va_get (D := E.1) (ci := 11) (C := RX10) (T := TX10) (N := 48) cx.1 cx.2.1 cx.2.2.2 iwX10 cx.2.2.1 ok hw.1 0 rfl rfl 15 (by decide) (cx.2.2.2 _ k_806) (fun _ h9 => h9) rfl hdg kk
theorem ptM_15 (cx : CxM p s m args c cc) (ok : okM E A s) (hw : wsM E σ A s H locs) {x : Int32} (hdg : decode cc pc = .ok (.putfield 147, 3)) (kk : ∀ (H1 : Heap) (locs1 : List Loc), wsM E (sI σ 15 0 x) A s H1 locs1 → W p l e R s m args below meth c H1 locs1 cells slots Q (F0 m (pc + 3) ls (rest))) : W p l e R s m args below meth c H locs cells slots Q (F0 m pc ls (.int x :: .ref (E.2.2 1000) :: rest)) := va_put (D := E.1) (ci := 11) (v := .int x) (ty := .int) (C := RX10) (T := TX10) (N := 48) cx.1 cx.2.1 cx.2.2.2 iwX10 tyX10 tyX10_ok nmX10 cx.2.2.1 ok hw.1 hw.2.1 hw.2.2 0 rfl rfl 15 (by decide) (cx.2.2.2 _ k_806) (fun _ h9 => h9) rfl (by decide +kernel) rfl rfl (Nat.le_of_ble_eq_true rfl) hdg (fun H1 locs1 hP hD hS => kk H1 locs1 ⟨hP, hD, hS⟩)
theorem gtM_16 (cx : CxM p s m args c cc) (ok : okM E A s) (hw : wsM E σ A s H locs) (hdg : decode cc pc = .ok (.getfield 37, 3)) (kk : W p l e R s m args below meth c H locs cells slots Q (F0 m (pc + 3) ls (.ref (E.2.2 16) :: rest))) : W p l e R s m args below meth c H locs cells slots Q (F0 m pc ls (.ref (E.2.2 1000) :: rest)) := va_get (D := E.1) (ci := 11) (C := RX10) (T := TX10) (N := 48) cx.1 cx.2.1 cx.2.2.2 iwX10 cx.2.2.1 ok hw.1 0 rfl rfl 16 (by decide) (cx.2.2.2 _ k_807) (fun _ h9 => h9) rfl hdg kk
theorem gtM_17 (cx : CxM p s m args c cc) (ok : okM E A s) (hw : wsM E σ A s H locs) (hdg : decode cc pc = .ok (.getfield 40, 3)) (kk : W p l e R s m args below meth c H locs cells slots Q (F0 m (pc + 3) ls (.ref (E.2.2 17) :: rest))) : W p l e R s m args below meth c H locs cells slots Q (F0 m pc ls (.ref (E.2.2 1000) :: rest)) := va_get (D := E.1) (ci := 11) (C := RX10) (T := TX10) (N := 48) cx.1 cx.2.1 cx.2.2.2 iwX10 cx.2.2.1 ok hw.1 0 rfl rfl 17 (by decide) (cx.2.2.2 _ k_808) (fun _ h9 => h9) rfl hdg kk
theorem gtM_18 (cx : CxM p s m args c cc) (ok : okM E A s) (hw : wsM E σ A s H locs) (hdg : decode cc pc = .ok (.getfield 43, 3)) (kk : W p l e R s m args below meth c H locs cells slots Q (F0 m (pc + 3) ls (.ref (E.2.2 18) :: rest))) : W p l e R s m args below meth c H locs cells slots Q (F0 m pc ls (.ref (E.2.2 1000) :: rest)) := va_get (D := E.1) (ci := 11) (C := RX10) (T := TX10) (N := 48) cx.1 cx.2.1 cx.2.2.2 iwX10 cx.2.2.1 ok hw.1 0 rfl rfl 18 (by decide) (cx.2.2.2 _ k_809) (fun _ h9 => h9) rfl hdg kk
theorem gtM_19 (cx : CxM p s m args c cc) (ok : okM E A s) (hw : wsM E σ A s H locs) (hdg : decode cc pc = .ok (.getfield 46, 3)) (kk : W p l e R s m args below meth c H locs cells slots Q (F0 m (pc + 3) ls (.ref (E.2.2 19) :: rest))) : W p l e R s m args below meth c H locs cells slots Q (F0 m pc ls (.ref (E.2.2 1000) :: rest)) := va_get (D := E.1) (ci := 11) (C := RX10) (T := TX10) (N := 48) cx.1 cx.2.1 cx.2.2.2 iwX10 cx.2.2.1 ok hw.1 0 rfl rfl 19 (by decide) (cx.2.2.2 _ k_810) (fun _ h9 => h9) rfl hdg kk
theorem gtM_20 (cx : CxM p s m args c cc) (ok : okM E A s) (hw : wsM E σ A s H locs) (hdg : decode cc pc = .ok (.getfield 49, 3)) (kk : W p l e R s m args below meth c H locs cells slots Q (F0 m (pc + 3) ls (.ref (E.2.2 20) :: rest))) : W p l e R s m args below meth c H locs cells slots Q (F0 m pc ls (.ref (E.2.2 1000) :: rest)) := va_get (D := E.1) (ci := 11) (C := RX10) (T := TX10) (N := 48) cx.1 cx.2.1 cx.2.2.2 iwX10 cx.2.2.1 ok hw.1 0 rfl rfl 20 (by decide) (cx.2.2.2 _ k_811) (fun _ h9 => h9) rfl hdg kk
theorem gtM_21 (cx : CxM p s m args c cc) (ok : okM E A s) (hw : wsM E σ A s H locs) (hdg : decode cc pc = .ok (.getfield 122, 3)) (kk : W p l e R s m args below meth c H locs cells slots Q (F0 m (pc + 3) ls (.int (σ.1 21 0) :: rest))) : W p l e R s m args below meth c H locs cells slots Q (F0 m pc ls (.ref (E.2.2 1000) :: rest)) := va_get (D := E.1) (ci := 11) (C := RX10) (T := TX10) (N := 48) cx.1 cx.2.1 cx.2.2.2 iwX10 cx.2.2.1 ok hw.1 0 rfl rfl 21 (by decide) (cx.2.2.2 _ k_812) (fun _ h9 => h9) rfl hdg kk
theorem ptM_21 (cx : CxM p s m args c cc) (ok : okM E A s) (hw : wsM E σ A s H locs) {x : Int32} (hdg : decode cc pc = .ok (.putfield 122, 3)) (kk : ∀ (H1 : Heap) (locs1 : List Loc), wsM E (sI σ 21 0 x) A s H1 locs1 → W p l e R s m args below meth c H1 locs1 cells slots Q (F0 m (pc + 3) ls (rest))) : W p l e R s m args below meth c H locs cells slots Q (F0 m pc ls (.int x :: .ref (E.2.2 1000) :: rest)) := va_put (D := E.1) (ci := 11) (v := .int x) (ty := .int) (C := RX10) (T := TX10) (N := 48) cx.1 cx.2.1 cx.2.2.2 iwX10 tyX10 tyX10_ok nmX10 cx.2.2.1 ok hw.1 hw.2.1 hw.2.2 0 rfl rfl 21 (by decide) (cx.2.2.2 _ k_812) (fun _ h9 => h9) rfl (by decide +kernel) rfl rfl (Nat.le_of_ble_eq_true rfl) hdg (fun H1 locs1 hP hD hS => kk H1 locs1 ⟨hP, hD, hS⟩)
theorem gtM_22 (cx : CxM p s m args c cc) (ok : okM E A s) (hw : wsM E σ A s H locs) (hdg : decode cc pc = .ok (.getfield 129, 3)) (kk : W p l e R s m args below meth c H locs cells slots Q (F0 m (pc + 3) ls (.int (σ.1 22 0) :: rest))) : W p l e R s m args below meth c H locs cells slots Q (F0 m pc ls (.ref (E.2.2 1000) :: rest)) := va_get (D := E.1) (ci := 11) (C := RX10) (T := TX10) (N := 48) cx.1 cx.2.1 cx.2.2.2 iwX10 cx.2.2.1 ok hw.1 0 rfl rfl 22 (by decide) (cx.2.2.2 _ k_813) (fun _ h9 => h9) rfl hdg kk
theorem ptM_22 (cx : CxM p s m args c cc) (ok : okM E A s) (hw : wsM E σ A s H locs) {x : Int32} (hdg : decode cc pc = .ok (.putfield 129, 3)) (kk : ∀ (H1 : Heap) (locs1 : List Loc), wsM E (sI σ 22 0 x) A s H1 locs1 → W p l e R s m args below meth c H1 locs1 cells slots Q (F0 m (pc + 3) ls (rest))) : W p l e R s m args below meth c H locs cells slots Q (F0 m pc ls (.int x :: .ref (E.2.2 1000) :: rest)) := va_put (D := E.1) (ci := 11) (v := .int x) (ty := .int) (C := RX10) (T := TX10) (N := 48) cx.1 cx.2.1 cx.2.2.2 iwX10 tyX10 tyX10_ok nmX10 cx.2.2.1 ok hw.1 hw.2.1 hw.2.2 0 rfl rfl 22 (by decide) (cx.2.2.2 _ k_813) (fun _ h9 => h9) rfl (by decide +kernel) rfl rfl (Nat.le_of_ble_eq_true rfl) hdg (fun H1 locs1 hP hD hS => kk H1 locs1 ⟨hP, hD, hS⟩)
theorem gtM_23 (cx : CxM p s m args c cc) (ok : okM E A s) (hw : wsM E σ A s H locs) (hdg : decode cc pc = .ok (.getfield 52, 3)) (kk : W p l e R s m args below meth c H locs cells slots Q (F0 m (pc + 3) ls (.ref (E.2.2 23) :: rest))) : W p l e R s m args below meth c H locs cells slots Q (F0 m pc ls (.ref (E.2.2 1000) :: rest)) := va_get (D := E.1) (ci := 11) (C := RX10) (T := TX10) (N := 48) cx.1 cx.2.1 cx.2.2.2 iwX10 cx.2.2.1 ok hw.1 0 rfl rfl 23 (by decide) (cx.2.2.2 _ k_814) (fun _ h9 => h9) rfl hdg kk
theorem gtM_24 (cx : CxM p s m args c cc) (ok : okM E A s) (hw : wsM E σ A s H locs) (hdg : decode cc pc = .ok (.getfield 192, 3)) (kk : W p l e R s m args below meth c H locs cells slots Q (F0 m (pc + 3) ls (.int (σ.1 24 0) :: rest))) : W p l e R s m args below meth c H locs cells slots Q (F0 m pc ls (.ref (E.2.2 1000) :: rest)) := va_get (D := E.1) (ci := 11) (C := RX10) (T := TX10) (N := 48) cx.1 cx.2.1 cx.2.2.2 iwX10 cx.2.2.1 ok hw.1 0 rfl rfl 24 (by decide) (cx.2.2.2 _ k_815) (fun _ h9 => h9) rfl hdg kk
theorem ptM_24 (cx : CxM p s m args c cc) (ok : okM E A s) (hw : wsM E σ A s H locs) {x : Int32} (hdg : decode cc pc = .ok (.putfield 192, 3)) (kk : ∀ (H1 : Heap) (locs1 : List Loc), wsM E (sI σ 24 0 x) A s H1 locs1 → W p l e R s m args below meth c H1 locs1 cells slots Q (F0 m (pc + 3) ls (rest))) : W p l e R s m args below meth c H locs cells slots Q (F0 m pc ls (.int x :: .ref (E.2.2 1000) :: rest)) := va_put (D := E.1) (ci := 11) (v := .int x) (ty := .int) (C := RX10) (T := TX10) (N := 48) cx.1 cx.2.1 cx.2.2.2 iwX10 tyX10 tyX10_ok nmX10 cx.2.2.1 ok hw.1 hw.2.1 hw.2.2 0 rfl rfl 24 (by decide) (cx.2.2.2 _ k_815) (fun _ h9 => h9) rfl (by decide +kernel) rfl rfl (Nat.le_of_ble_eq_true rfl) hdg (fun H1 locs1 hP hD hS => kk H1 locs1 ⟨hP, hD, hS⟩)
theorem gtM_25 (cx : CxM p s m args c cc) (ok : okM E A s) (hw : wsM E σ A s H locs) (hdg : decode cc pc = .ok (.getfield 216, 3)) (kk : W p l e R s m args below meth c H locs cells slots Q (F0 m (pc + 3) ls (.int (σ.1 25 0) :: rest))) : W p l e R s m args below meth c H locs cells slots Q (F0 m pc ls (.ref (E.2.2 1000) :: rest)) := va_get (D := E.1) (ci := 11) (C := RX10) (T := TX10) (N := 48) cx.1 cx.2.1 cx.2.2.2 iwX10 cx.2.2.1 ok hw.1 0 rfl rfl 25 (by decide) (cx.2.2.2 _ k_816) (fun _ h9 => h9) rfl hdg kk
theorem ptM_25 (cx : CxM p s m args c cc) (ok : okM E A s) (hw : wsM E σ A s H locs) {x : Int32} (hdg : decode cc pc = .ok (.putfield 216, 3)) (kk : ∀ (H1 : Heap) (locs1 : List Loc), wsM E (sI σ 25 0 x) A s H1 locs1 → W p l e R s m args below meth c H1 locs1 cells slots Q (F0 m (pc + 3) ls (rest))) : W p l e R s m args below meth c H locs cells slots Q (F0 m pc ls (.int x :: .ref (E.2.2 1000) :: rest)) := va_put (D := E.1) (ci := 11) (v := .int x) (ty := .int) (C := RX10) (T := TX10) (N := 48) cx.1 cx.2.1 cx.2.2.2 iwX10 tyX10 tyX10_ok nmX10 cx.2.2.1 ok hw.1 hw.2.1 hw.2.2 0 rfl rfl 25 (by decide) (cx.2.2.2 _ k_816) (fun _ h9 => h9) rfl (by decide +kernel) rfl rfl (Nat.le_of_ble_eq_true rfl) hdg (fun H1 locs1 hP hD hS => kk H1 locs1 ⟨hP, hD, hS⟩)
theorem gtM_26 (cx : CxM p s m args c cc) (ok : okM E A s) (hw : wsM E σ A s H locs) (hdg : decode cc pc = .ok (.getfield 56, 3)) (kk : W p l e R s m args below meth c H locs cells slots Q (F0 m (pc + 3) ls (.ref (E.2.2 26) :: rest))) : W p l e R s m args below meth c H locs cells slots Q (F0 m pc ls (.ref (E.2.2 1000) :: rest)) := va_get (D := E.1) (ci := 11) (C := RX10) (T := TX10) (N := 48) cx.1 cx.2.1 cx.2.2.2 iwX10 cx.2.2.1 ok hw.1 0 rfl rfl 26 (by decide) (cx.2.2.2 _ k_817) (fun _ h9 => h9) rfl hdg kk
theorem gtM_27 (cx : CxM p s m args c cc) (ok : okM E A s) (hw : wsM E σ A s H locs) (hdg : decode cc pc = .ok (.getfield 59, 3)) (kk : W p l e R s m args below meth c H locs cells slots Q (F0 m (pc + 3) ls (.ref (E.2.2 27) :: rest))) : W p l e R s m args below meth c H locs cells slots Q (F0 m pc ls (.ref (E.2.2 1000) :: rest)) := va_get (D := E.1) (ci := 11) (C := RX10) (T := TX10) (N := 48) cx.1 cx.2.1 cx.2.2.2 iwX10 cx.2.2.1 ok hw.1 0 rfl rfl 27 (by decide) (cx.2.2.2 _ k_818) (fun _ h9 => h9) rfl hdg kk
theorem gtM_28 (cx : CxM p s m args c cc) (ok : okM E A s) (hw : wsM E σ A s H locs) (hdg : decode cc pc = .ok (.getfield 62, 3)) (kk : W p l e R s m args below meth c H locs cells slots Q (F0 m (pc + 3) ls (.ref (E.2.2 28) :: rest))) : W p l e R s m args below meth c H locs cells slots Q (F0 m pc ls (.ref (E.2.2 1000) :: rest)) := va_get (D := E.1) (ci := 11) (C := RX10) (T := TX10) (N := 48) cx.1 cx.2.1 cx.2.2.2 iwX10 cx.2.2.1 ok hw.1 0 rfl rfl 28 (by decide) (cx.2.2.2 _ k_819) (fun _ h9 => h9) rfl hdg kk
theorem gtM_29 (cx : CxM p s m args c cc) (ok : okM E A s) (hw : wsM E σ A s H locs) (hdg : decode cc pc = .ok (.getfield 65, 3)) (kk : W p l e R s m args below meth c H locs cells slots Q (F0 m (pc + 3) ls (.ref (E.2.2 29) :: rest))) : W p l e R s m args below meth c H locs cells slots Q (F0 m pc ls (.ref (E.2.2 1000) :: rest)) := va_get (D := E.1) (ci := 11) (C := RX10) (T := TX10) (N := 48) cx.1 cx.2.1 cx.2.2.2 iwX10 cx.2.2.1 ok hw.1 0 rfl rfl 29 (by decide) (cx.2.2.2 _ k_820) (fun _ h9 => h9) rfl hdg kk
theorem gtM_30 (cx : CxM p s m args c cc) (ok : okM E A s) (hw : wsM E σ A s H locs) (hdg : decode cc pc = .ok (.getfield 68, 3)) (kk : W p l e R s m args below meth c H locs cells slots Q (F0 m (pc + 3) ls (.ref (E.2.2 30) :: rest))) : W p l e R s m args below meth c H locs cells slots Q (F0 m pc ls (.ref (E.2.2 1000) :: rest)) := va_get (D := E.1) (ci := 11) (C := RX10) (T := TX10) (N := 48) cx.1 cx.2.1 cx.2.2.2 iwX10 cx.2.2.1 ok hw.1 0 rfl rfl 30 (by decide) (cx.2.2.2 _ k_821) (fun _ h9 => h9) rfl hdg kk
theorem gtM_31 (cx : CxM p s m args c cc) (ok : okM E A s) (hw : wsM E σ A s H locs) (hdg : decode cc pc = .ok (.getfield 71, 3)) (kk : W p l e R s m args below meth c H locs cells slots Q (F0 m (pc + 3) ls (.ref (E.2.2 31) :: rest))) : W p l e R s m args below meth c H locs cells slots Q (F0 m pc ls (.ref (E.2.2 1000) :: rest)) := va_get (D := E.1) (ci := 11) (C := RX10) (T := TX10) (N := 48) cx.1 cx.2.1 cx.2.2.2 iwX10 cx.2.2.1 ok hw.1 0 rfl rfl 31 (by decide) (cx.2.2.2 _ k_822) (fun _ h9 => h9) rfl hdg kk
theorem gtM_32 (cx : CxM p s m args c cc) (ok : okM E A s) (hw : wsM E σ A s H locs) (hdg : decode cc pc = .ok (.getfield 74, 3)) (kk : W p l e R s m args below meth c H locs cells slots Q (F0 m (pc + 3) ls (.ref (E.2.2 32) :: rest))) : W p l e R s m args below meth c H locs cells slots Q (F0 m pc ls (.ref (E.2.2 1000) :: rest)) := va_get (D := E.1) (ci := 11) (C := RX10) (T := TX10) (N := 48) cx.1 cx.2.1 cx.2.2.2 iwX10 cx.2.2.1 ok hw.1 0 rfl rfl 32 (by decide) (cx.2.2.2 _ k_823) (fun _ h9 => h9) rfl hdg kk
theorem gtM_33 (cx : CxM p s m args c cc) (ok : okM E A s) (hw : wsM E σ A s H locs) (hdg : decode cc pc = .ok (.getfield 77, 3)) (kk : W p l e R s m args below meth c H locs cells slots Q (F0 m (pc + 3) ls (.ref (E.2.2 33) :: rest))) : W p l e R s m args below meth c H locs cells slots Q (F0 m pc ls (.ref (E.2.2 1000) :: rest)) := va_get (D := E.1) (ci := 11) (C := RX10) (T := TX10) (N := 48) cx.1 cx.2.1 cx.2.2.2 iwX10 cx.2.2.1 ok hw.1 0 rfl rfl 33 (by decide) (cx.2.2.2 _ k_824) (fun _ h9 => h9) rfl hdg kk
theorem gtM_34 (cx : CxM p s m args c cc) (ok : okM E A s) (hw : wsM E σ A s H locs) (hdg : decode cc pc = .ok (.getfield 80, 3)) (kk : W p l e R s m args below meth c H locs cells slots Q (F0 m (pc + 3) ls (.ref (E.2.2 34) :: rest))) : W p l e R s m args below meth c H locs cells slots Q (F0 m pc ls (.ref (E.2.2 1000) :: rest)) := va_get (D := E.1) (ci := 11) (C := RX10) (T := TX10) (N := 48) cx.1 cx.2.1 cx.2.2.2 iwX10 cx.2.2.1 ok hw.1 0 rfl rfl 34 (by decide) (cx.2.2.2 _ k_825) (fun _ h9 => h9) rfl hdg kk
theorem gtM_35 (cx : CxM p s m args c cc) (ok : okM E A s) (hw : wsM E σ A s H locs) (hdg : decode cc pc = .ok (.getfield 85, 3)) (kk : W p l e R s m args below meth c H locs cells slots Q (F0 m (pc + 3) ls (.ref (E.2.2 35) :: rest))) : W p l e R s m args below meth c H locs cells slots Q (F0 m pc ls (.ref (E.2.2 1000) :: rest)) := va_get (D := E.1) (ci := 11) (C := RX10) (T := TX10) (N := 48) cx.1 cx.2.1 cx.2.2.2 iwX10 cx.2.2.1 ok hw.1 0 rfl rfl 35 (by decide) (cx.2.2.2 _ k_826) (fun _ h9 => h9) rfl hdg kk
theorem gtM_36 (cx : CxM p s m args c cc) (ok : okM E A s) (hw : wsM E σ A s H locs) (hdg : decode cc pc = .ok (.getfield 88, 3)) (kk : W p l e R s m args below meth c H locs cells slots Q (F0 m (pc + 3) ls (.ref (E.2.2 36) :: rest))) : W p l e R s m args below meth c H locs cells slots Q (F0 m pc ls (.ref (E.2.2 1000) :: rest)) := va_get (D := E.1) (ci := 11) (C := RX10) (T := TX10) (N := 48) cx.1 cx.2.1 cx.2.2.2 iwX10 cx.2.2.1 ok hw.1 0 rfl rfl 36 (by decide) (cx.2.2.2 _ k_827) (fun _ h9 => h9) rfl hdg kk
theorem gtM_37 (cx : CxM p s m args c cc) (ok : okM E A s) (hw : wsM E σ A s H locs) (hdg : decode cc pc = .ok (.getfield 91, 3)) (kk : W p l e R s m args below meth c H locs cells slots Q (F0 m (pc + 3) ls (.ref (E.2.2 37) :: rest))) : W p l e R s m args below meth c H locs cells slots Q (F0 m pc ls (.ref (E.2.2 1000) :: rest)) := va_get (D := E.1) (ci := 11) (C := RX10) (T := TX10) (N := 48) cx.1 cx.2.1 cx.2.2.2 iwX10 cx.2.2.1 ok hw.1 0 rfl rfl 37 (by decide) (cx.2.2.2 _ k_828) (fun _ h9 => h9) rfl hdg kk
theorem gtM_38 (cx : CxM p s m args c cc) (ok : okM E A s) (hw : wsM E σ A s H locs) (hdg : decode cc pc = .ok (.getfield 219, 3)) (kk : W p l e R s m args below meth c H locs cells slots Q (F0 m (pc + 3) ls (.int (σ.1 38 0) :: rest))) : W p l e R s m args below meth c H locs cells slots Q (F0 m pc ls (.ref (E.2.2 1000) :: rest)) := va_get (D := E.1) (ci := 11) (C := RX10) (T := TX10) (N := 48) cx.1 cx.2.1 cx.2.2.2 iwX10 cx.2.2.1 ok hw.1 0 rfl rfl 38 (by decide) (cx.2.2.2 _ k_829) (fun _ h9 => h9) rfl hdg kk
theorem ptM_38 (cx : CxM p s m args c cc) (ok : okM E A s) (hw : wsM E σ A s H locs) {x : Int32} (h01 : x = 0 ∨ x = 1) (hdg : decode cc pc = .ok (.putfield 219, 3)) (kk : ∀ (H1 : Heap) (locs1 : List Loc), wsM E (sI σ 38 0 x) A s H1 locs1 → W p l e R s m args below meth c H1 locs1 cells slots Q (F0 m (pc + 3) ls (rest))) : W p l e R s m args below meth c H locs cells slots Q (F0 m pc ls (.int x :: .ref (E.2.2 1000) :: rest)) := va_put (D := E.1) (ci := 11) (v := .int x) (ty := .boolean) (C := RX10) (T := TX10) (N := 48) cx.1 cx.2.1 cx.2.2.2 iwX10 tyX10 tyX10_ok nmX10 cx.2.2.1 ok hw.1 hw.2.1 hw.2.2 0 rfl rfl 38 (by decide) (cx.2.2.2 _ k_829) (fun _ h9 => h9) rfl (by decide +kernel) (nb01 h01) (fb01 h01) (Nat.le_of_ble_eq_true rfl) hdg (fun H1 locs1 hP hD hS => kk H1 locs1 ⟨hP, hD, hS⟩)
theorem gtM_39 (cx : CxM p s m args c cc) (ok : okM E A s) (hw : wsM E σ A s H locs) (hdg : decode cc pc = .ok (.getfield 94, 3)) (kk : W p l e R s m args below meth c H locs cells slots Q (F0 m (pc + 3) ls (.ref (E.2.2 39) :: rest))) : W p l e R s m args below meth c H locs cells slots Q (F0 m pc ls (.ref (E.2.2 1000) :: rest)) := va_get (D := E.1) (ci := 11) (C := RX10) (T := TX10) (N := 48) cx.1 cx.2.1 cx.2.2.2 iwX10 cx.2.2.1 ok hw.1 0 rfl rfl 39 (by decide) (cx.2.2.2 _ k_830) (fun _ h9 => h9) rfl hdg kk
theorem gtM_40 (cx : CxM p s m args c cc) (ok : okM E A s) (hw : wsM E σ A s H locs) (hdg : decode cc pc = .ok (.getfield 97, 3)) (kk : W p l e R s m args below meth c H locs cells slots Q (F0 m (pc + 3) ls (.ref (E.2.2 40) :: rest))) : W p l e R s m args below meth c H locs cells slots Q (F0 m pc ls (.ref (E.2.2 1000) :: rest)) := va_get (D := E.1) (ci := 11) (C := RX10) (T := TX10) (N := 48) cx.1 cx.2.1 cx.2.2.2 iwX10 cx.2.2.1 ok hw.1 0 rfl rfl 40 (by decide) (cx.2.2.2 _ k_831) (fun _ h9 => h9) rfl hdg kk
theorem gtM_41 (cx : CxM p s m args c cc) (ok : okM E A s) (hw : wsM E σ A s H locs) (hdg : decode cc pc = .ok (.getfield 100, 3)) (kk : W p l e R s m args below meth c H locs cells slots Q (F0 m (pc + 3) ls (.ref (E.2.2 41) :: rest))) : W p l e R s m args below meth c H locs cells slots Q (F0 m pc ls (.ref (E.2.2 1000) :: rest)) := va_get (D := E.1) (ci := 11) (C := RX10) (T := TX10) (N := 48) cx.1 cx.2.1 cx.2.2.2 iwX10 cx.2.2.1 ok hw.1 0 rfl rfl 41 (by decide) (cx.2.2.2 _ k_832) (fun _ h9 => h9) rfl hdg kk
theorem gtM_42 (cx : CxM p s m args c cc) (ok : okM E A s) (hw : wsM E σ A s H locs) (hdg : decode cc pc = .ok (.getfield 103, 3)) (kk : W p l e R s m args below meth c H locs cells slots Q (F0 m (pc + 3) ls (.ref (E.2.2 42) :: rest))) : W p l e R s m args below meth c H locs cells slots Q (F0 m pc ls (.ref (E.2.2 1000) :: rest)) := va_get (D := E.1) (ci := 11) (C := RX10) (T := TX10) (N := 48) cx.1 cx.2.1 cx.2.2.2 iwX10 cx.2.2.1 ok hw.1 0 rfl rfl 42 (by decide) (cx.2.2.2 _ k_833) (fun _ h9 => h9) rfl hdg kk
theorem gtM_43 (cx : CxM p s m args c cc) (ok : okM E A s) (hw : wsM E σ A s H locs) (hdg : decode cc pc = .ok (.getfield 247, 3)) (kk : W p l e R s m args below meth c H locs cells slots Q (F0 m (pc + 3) ls (.int (σ.1 43 0) :: rest))) : W p l e R s m args below meth c H locs cells slots Q (F0 m pc ls (.ref (E.2.2 1000) :: rest)) := va_get (D := E.1) (ci := 11) (C := RX10) (T := TX10) (N := 48) cx.1 cx.2.1 cx.2.2.2 iwX10 cx.2.2.1 ok hw.1 0 rfl rfl 43 (by decide) (cx.2.2.2 _ k_834) (fun _ h9 => h9) rfl hdg kk
theorem ptM_43 (cx : CxM p s m args c cc) (ok : okM E A s) (hw : wsM E σ A s H locs) {x : Int32} (hdg : decode cc pc = .ok (.putfield 247, 3)) (kk : ∀ (H1 : Heap) (locs1 : List Loc), wsM E (sI σ 43 0 x) A s H1 locs1 → W p l e R s m args below meth c H1 locs1 cells slots Q (F0 m (pc + 3) ls (rest))) : W p l e R s m args below meth c H locs cells slots Q (F0 m pc ls (.int x :: .ref (E.2.2 1000) :: rest)) := va_put (D := E.1) (ci := 11) (v := .int x) (ty := .int) (C := RX10) (T := TX10) (N := 48) cx.1 cx.2.1 cx.2.2.2 iwX10 tyX10 tyX10_ok nmX10 cx.2.2.1 ok hw.1 hw.2.1 hw.2.2 0 rfl rfl 43 (by decide) (cx.2.2.2 _ k_834) (fun _ h9 => h9) rfl (by decide +kernel) rfl rfl (Nat.le_of_ble_eq_true rfl) hdg (fun H1 locs1 hP hD hS => kk H1 locs1 ⟨hP, hD, hS⟩)
theorem gtM_44 (cx : CxM p s m args c cc) (ok : okM E A s) (hw : wsM E σ A s H locs) (hdg : decode cc pc = .ok (.getfield 253, 3)) (kk : W p l e R s m args below meth c H locs cells slots Q (F0 m (pc + 3) ls (.int (σ.1 44 0) :: rest))) : W p l e R s m args below meth c H locs cells slots Q (F0 m pc ls (.ref (E.2.2 1000) :: rest)) := va_get (D := E.1) (ci := 11) (C := RX10) (T := TX10) (N := 48) cx.1 cx.2.1 cx.2.2.2 iwX10 cx.2.2.1 ok hw.1 0 rfl rfl 44 (by decide) (cx.2.2.2 _ k_835) (fun _ h9 => h9) rfl hdg kk
theorem ptM_44 (cx : CxM p s m args c cc) (ok : okM E A s) (hw : wsM E σ A s H locs) {x : Int32} (hdg : decode cc pc = .ok (.putfield 253, 3)) (kk : ∀ (H1 : Heap) (locs1 : List Loc), wsM E (sI σ 44 0 x) A s H1 locs1 → W p l e R s m args below meth c H1 locs1 cells slots Q (F0 m (pc + 3) ls (rest))) : W p l e R s m args below meth c H locs cells slots Q (F0 m pc ls (.int x :: .ref (E.2.2 1000) :: rest)) := va_put (D := E.1) (ci := 11) (v := .int x) (ty := .int) (C := RX10) (T := TX10) (N := 48) cx.1 cx.2.1 cx.2.2.2 iwX10 tyX10 tyX10_ok nmX10 cx.2.2.1 ok hw.1 hw.2.1 hw.2.2 0 rfl rfl 44 (by decide) (cx.2.2.2 _ k_835) (fun _ h9 => h9) rfl (by decide +kernel) rfl rfl (Nat.le_of_ble_eq_true rfl) hdg (fun H1 locs1 hP hD hS => kk H1 locs1 ⟨hP, hD, hS⟩)
theorem gtM_45 (cx : CxM p s m args c cc) (ok : okM E A s) (hw : wsM E σ A s H locs) (hdg : decode cc pc = .ok (.getfield 256, 3)) (kk : W p l e R s m args below meth c H locs cells slots Q (F0 m (pc + 3) ls (.int (σ.1 45 0) :: rest))) : W p l e R s m args below meth c H locs cells slots Q (F0 m pc ls (.ref (E.2.2 1000) :: rest)) := va_get (D := E.1) (ci := 11) (C := RX10) (T := TX10) (N := 48) cx.1 cx.2.1 cx.2.2.2 iwX10 cx.2.2.1 ok hw.1 0 rfl rfl 45 (by decide) (cx.2.2.2 _ k_836) (fun _ h9 => h9) rfl hdg kk
theorem ptM_45 (cx : CxM p s m args c cc) (ok : okM E A s) (hw : wsM E σ A s H locs) {x : Int32} (hdg : decode cc pc = .ok (.putfield 256, 3)) (kk : ∀ (H1 : Heap) (locs1 : List Loc), wsM E (sI σ 45 0 x) A s H1 locs1 → W p l e R s m args below meth c H1 locs1 cells slots Q (F0 m (pc + 3) ls (rest))) : W p l e R s m args below meth c H locs cells slots Q (F0 m pc ls (.int x :: .ref (E.2.2 1000) :: rest)) := va_put (D := E.1) (ci := 11) (v := .int x) (ty := .int) (C := RX10) (T := TX10) (N := 48) cx.1 cx.2.1 cx.2.2.2 iwX10 tyX10 tyX10_ok nmX10 cx.2.2.1 ok hw.1 hw.2.1 hw.2.2 0 rfl rfl 45 (by decide) (cx.2.2.2 _ k_836) (fun _ h9 => h9) rfl (by decide +kernel) rfl rfl (Nat.le_of_ble_eq_true rfl) hdg (fun H1 locs1 hP hD hS => kk H1 locs1 ⟨hP, hD, hS⟩)
theorem gtM_46 (cx : CxM p s m args c cc) (ok : okM E A s) (hw : wsM E σ A s H locs) (hdg : decode cc pc = .ok (.getfield 259, 3)) (kk : W p l e R s m args below meth c H locs cells slots Q (F0 m (pc + 3) ls (.int (σ.1 46 0) :: rest))) : W p l e R s m args below meth c H locs cells slots Q (F0 m pc ls (.ref (E.2.2 1000) :: rest)) := va_get (D := E.1) (ci := 11) (C := RX10) (T := TX10) (N := 48) cx.1 cx.2.1 cx.2.2.2 iwX10 cx.2.2.1 ok hw.1 0 rfl rfl 46 (by decide) (cx.2.2.2 _ k_837) (fun _ h9 => h9) rfl hdg kk
theorem ptM_46 (cx : CxM p s m args c cc) (ok : okM E A s) (hw : wsM E σ A s H locs) {x : Int32} (hdg : decode cc pc = .ok (.putfield 259, 3)) (kk : ∀ (H1 : Heap) (locs1 : List Loc), wsM E (sI σ 46 0 x) A s H1 locs1 → W p l e R s m args below meth c H1 locs1 cells slots Q (F0 m (pc + 3) ls (rest))) : W p l e R s m args below meth c H locs cells slots Q (F0 m pc ls (.int x :: .ref (E.2.2 1000) :: rest)) := va_put (D := E.1) (ci := 11) (v := .int x) (ty := .int) (C := RX10) (T := TX10) (N := 48) cx.1 cx.2.1 cx.2.2.2 iwX10 tyX10 tyX10_ok nmX10 cx.2.2.1 ok hw.1 hw.2.1 hw.2.2 0 rfl rfl 46 (by decide) (cx.2.2.2 _ k_837) (fun _ h9 => h9) rfl (by decide +kernel) rfl rfl (Nat.le_of_ble_eq_true rfl) hdg (fun H1 locs1 hP hD hS => kk H1 locs1 ⟨hP, hD, hS⟩)
theorem gtM_47 (cx : CxM p s m args c cc) (ok : okM E A s) (hw : wsM E σ A s H locs) (hdg : decode cc pc = .ok (.getfield 262, 3)) (kk : W p l e R s m args below meth c H locs cells slots Q (F0 m (pc + 3) ls (.int (σ.1 47 0) :: rest))) : W p l e R s m args below meth c H locs cells slots Q (F0 m pc ls (.ref (E.2.2 1000) :: rest)) := va_get (D := E.1) (ci := 11) (C := RX10) (T := TX10) (N := 48) cx.1 cx.2.1 cx.2.2.2 iwX10 cx.2.2.1 ok hw.1 0 rfl rfl 47 (by decide) (cx.2.2.2 _ k_838) (fun _ h9 => h9) rfl hdg kk
theorem ptM_47 (cx : CxM p s m args c cc) (ok : okM E A s) (hw : wsM E σ A s H locs) {x : Int32} (hdg : decode cc pc = .ok (.putfield 262, 3)) (kk : ∀ (H1 : Heap) (locs1 : List Loc), wsM E (sI σ 47 0 x) A s H1 locs1 → W p l e R s m args below meth c H1 locs1 cells slots Q (F0 m (pc + 3) ls (rest))) : W p l e R s m args below meth c H locs cells slots Q (F0 m pc ls (.int x :: .ref (E.2.2 1000) :: rest)) := va_put (D := E.1) (ci := 11) (v := .int x) (ty := .int) (C := RX10) (T := TX10) (N := 48) cx.1 cx.2.1 cx.2.2.2 iwX10 tyX10 tyX10_ok nmX10 cx.2.2.1 ok hw.1 hw.2.1 hw.2.2 0 rfl rfl 47 (by decide) (cx.2.2.2 _ k_838) (fun _ h9 => h9) rfl (by decide +kernel) rfl rfl (Nat.le_of_ble_eq_true rfl) hdg (fun H1 locs1 hP hD hS => kk H1 locs1 ⟨hP, hD, hS⟩)
theorem ldM_3 (cx : CxM p s m args c cc) (ok : okM E A s) (hw : wsM E σ A s H locs) {i : Int32} (hin : vp_in i 4) (hdg : decode cc pc = .ok (.iaload, 1)) (kk : W p l e R s m args below meth c H locs cells slots Q (F0 m (pc + 1) ls (.int (σ.1 3 i.toNatClampNeg) :: rest))) : W p l e R s m args below meth c H locs cells slots Q (F0 m pc ls (.int i :: .ref (E.2.2 3) :: rest)) := va_iald cx.1 cx.2.1 ok hw.1 1 1 rfl rfl hin hdg kk
theorem stM_3 (cx : CxM p s m args c cc) (ok : okM E A s) (hw : wsM E σ A s H locs) {i : Int32} {x : Int32} (hin : vp_in i 4) (hdg : decode cc pc = .ok (.iastore, 1)) (kk : ∀ (H1 : Heap) (locs1 : List Loc), wsM E (sI σ 3 i.toNatClampNeg x) A s H1 locs1 → W p l e R s m args below meth c H1 locs1 cells slots Q (F0 m (pc + 1) ls (rest))) : W p l e R s m args below meth c H locs cells slots Q (F0 m pc ls (.int x :: .int i :: .ref (E.2.2 3) :: rest)) := va_iast cx.1 cx.2.1 ok hw.1 hw.2.1 hw.2.2 1 1 rfl rfl hin hdg (fun H1 locs1 hP hD hS => kk H1 locs1 ⟨hP, hD, hS⟩)
theorem ldM_4 (cx : CxM p s m args c cc) (ok : okM E A s) (hw : wsM E σ A s H locs) {i : Int32} (hin : vp_in i 800) (hdg : decode cc pc = .ok (.iaload, 1)) (kk : W p l e R s m args below meth c H locs cells slots Q (F0 m (pc + 1) ls (.int (σ.1 4 i.toNatClampNeg) :: rest))) : W p l e R s m args below meth c H locs cells slots Q (F0 m pc ls (.int i :: .ref (E.2.2 4) :: rest)) := va_iald cx.1 cx.2.1 ok hw.1 2 1 rfl rfl hin hdg kk
theorem stM_4 (cx : CxM p s m args c cc) (ok : okM E A s) (hw : wsM E σ A s H locs) {i : Int32} {x : Int32} (hin : vp_in i 800) (hdg : decode cc pc = .ok (.iastore, 1)) (kk : ∀ (H1 : Heap) (locs1 : List Loc), wsM E (sI σ 4 i.toNatClampNeg x) A s H1 locs1 → W p l e R s m args below meth c H1 locs1 cells slots Q (F0 m (pc + 1) ls (rest))) : W p l e R s m args below meth c H locs cells slots Q (F0 m pc ls (.int x :: .int i :: .ref (E.2.2 4) :: rest)) := va_iast cx.1 cx.2.1 ok hw.1 hw.2.1 hw.2.2 2 1 rfl rfl hin hdg (fun H1 locs1 hP hD hS => kk H1 locs1 ⟨hP, hD, hS⟩)
theorem ldM_7 (cx : CxM p s m args c cc) (ok : okM E A s) (hw : wsM E σ A s H locs) {i : Int32} (hin : vp_in i 24) (hdg : decode cc pc = .ok (.iaload, 1)) (kk : W p l e R s m args below meth c H locs cells slots Q (F0 m (pc + 1) ls (.int (σ.1 7 i.toNatClampNeg) :: rest))) : W p l e R s m args below meth c H locs cells slots Q (F0 m pc ls (.int i :: .ref (E.2.2 7) :: rest)) := va_iald cx.1 cx.2.1 ok hw.1 3 1 rfl rfl hin hdg kk
theorem stM_7 (cx : CxM p s m args c cc) (ok : okM E A s) (hw : wsM E σ A s H locs) {i : Int32} {x : Int32} (hin : vp_in i 24) (hdg : decode cc pc = .ok (.iastore, 1)) (kk : ∀ (H1 : Heap) (locs1 : List Loc), wsM E (sI σ 7 i.toNatClampNeg x) A s H1 locs1 → W p l e R s m args below meth c H1 locs1 cells slots Q (F0 m (pc + 1) ls (rest))) : W p l e R s m args below meth c H locs cells slots Q (F0 m pc ls (.int x :: .int i :: .ref (E.2.2 7) :: rest)) := va_iast cx.1 cx.2.1 ok hw.1 hw.2.1 hw.2.2 3 1 rfl rfl hin hdg (fun H1 locs1 hP hD hS => kk H1 locs1 ⟨hP, hD, hS⟩)
theorem ldM_8 (cx : CxM p s m args c cc) (ok : okM E A s) (hw : wsM E σ A s H locs) {i : Int32} (hin : vp_in i 24) (hdg : decode cc pc = .ok (.iaload, 1)) (kk : W p l e R s m args below meth c H locs cells slots Q (F0 m (pc + 1) ls (.int (σ.1 8 i.toNatClampNeg) :: rest))) : W p l e R s m args below meth c H locs cells slots Q (F0 m pc ls (.int i :: .ref (E.2.2 8) :: rest)) := va_iald cx.1 cx.2.1 ok hw.1 4 1 rfl rfl hin hdg kk
theorem stM_8 (cx : CxM p s m args c cc) (ok : okM E A s) (hw : wsM E σ A s H locs) {i : Int32} {x : Int32} (hin : vp_in i 24) (hdg : decode cc pc = .ok (.iastore, 1)) (kk : ∀ (H1 : Heap) (locs1 : List Loc), wsM E (sI σ 8 i.toNatClampNeg x) A s H1 locs1 → W p l e R s m args below meth c H1 locs1 cells slots Q (F0 m (pc + 1) ls (rest))) : W p l e R s m args below meth c H locs cells slots Q (F0 m pc ls (.int x :: .int i :: .ref (E.2.2 8) :: rest)) := va_iast cx.1 cx.2.1 ok hw.1 hw.2.1 hw.2.2 4 1 rfl rfl hin hdg (fun H1 locs1 hP hD hS => kk H1 locs1 ⟨hP, hD, hS⟩)
theorem ldM_9 (cx : CxM p s m args c cc) (ok : okM E A s) (hw : wsM E σ A s H locs) {i : Int32} (hin : vp_in i 24) (hdg : decode cc pc = .ok (.iaload, 1)) (kk : W p l e R s m args below meth c H locs cells slots Q (F0 m (pc + 1) ls (.int (σ.1 9 i.toNatClampNeg) :: rest))) : W p l e R s m args below meth c H locs cells slots Q (F0 m pc ls (.int i :: .ref (E.2.2 9) :: rest)) := va_iald cx.1 cx.2.1 ok hw.1 5 1 rfl rfl hin hdg kk
theorem stM_9 (cx : CxM p s m args c cc) (ok : okM E A s) (hw : wsM E σ A s H locs) {i : Int32} {x : Int32} (hin : vp_in i 24) (hdg : decode cc pc = .ok (.iastore, 1)) (kk : ∀ (H1 : Heap) (locs1 : List Loc), wsM E (sI σ 9 i.toNatClampNeg x) A s H1 locs1 → W p l e R s m args below meth c H1 locs1 cells slots Q (F0 m (pc + 1) ls (rest))) : W p l e R s m args below meth c H locs cells slots Q (F0 m pc ls (.int x :: .int i :: .ref (E.2.2 9) :: rest)) := va_iast cx.1 cx.2.1 ok hw.1 hw.2.1 hw.2.2 5 1 rfl rfl hin hdg (fun H1 locs1 hP hD hS => kk H1 locs1 ⟨hP, hD, hS⟩)
theorem ldM_11 (cx : CxM p s m args c cc) (ok : okM E A s) (hw : wsM E σ A s H locs) {i : Int32} (hin : vp_in i 60) (hdg : decode cc pc = .ok (.iaload, 1)) (kk : W p l e R s m args below meth c H locs cells slots Q (F0 m (pc + 1) ls (.int (σ.1 11 i.toNatClampNeg) :: rest))) : W p l e R s m args below meth c H locs cells slots Q (F0 m pc ls (.int i :: .ref (E.2.2 11) :: rest)) := va_iald cx.1 cx.2.1 ok hw.1 6 1 rfl rfl hin hdg kk
theorem stM_11 (cx : CxM p s m args c cc) (ok : okM E A s) (hw : wsM E σ A s H locs) {i : Int32} {x : Int32} (hin : vp_in i 60) (hdg : decode cc pc = .ok (.iastore, 1)) (kk : ∀ (H1 : Heap) (locs1 : List Loc), wsM E (sI σ 11 i.toNatClampNeg x) A s H1 locs1 → W p l e R s m args below meth c H1 locs1 cells slots Q (F0 m (pc + 1) ls (rest))) : W p l e R s m args below meth c H locs cells slots Q (F0 m pc ls (.int x :: .int i :: .ref (E.2.2 11) :: rest)) := va_iast cx.1 cx.2.1 ok hw.1 hw.2.1 hw.2.2 6 1 rfl rfl hin hdg (fun H1 locs1 hP hD hS => kk H1 locs1 ⟨hP, hD, hS⟩)
theorem ldM_12 (cx : CxM p s m args c cc) (ok : okM E A s) (hw : wsM E σ A s H locs) {i : Int32} (hin : vp_in i 60) (hdg : decode cc pc = .ok (.iaload, 1)) (kk : W p l e R s m args below meth c H locs cells slots Q (F0 m (pc + 1) ls (.int (σ.1 12 i.toNatClampNeg) :: rest))) : W p l e R s m args below meth c H locs cells slots Q (F0 m pc ls (.int i :: .ref (E.2.2 12) :: rest)) := va_iald cx.1 cx.2.1 ok hw.1 7 1 rfl rfl hin hdg kk
theorem stM_12 (cx : CxM p s m args c cc) (ok : okM E A s) (hw : wsM E σ A s H locs) {i : Int32} {x : Int32} (hin : vp_in i 60) (hdg : decode cc pc = .ok (.iastore, 1)) (kk : ∀ (H1 : Heap) (locs1 : List Loc), wsM E (sI σ 12 i.toNatClampNeg x) A s H1 locs1 → W p l e R s m args below meth c H1 locs1 cells slots Q (F0 m (pc + 1) ls (rest))) : W p l e R s m args below meth c H locs cells slots Q (F0 m pc ls (.int x :: .int i :: .ref (E.2.2 12) :: rest)) := va_iast cx.1 cx.2.1 ok hw.1 hw.2.1 hw.2.2 7 1 rfl rfl hin hdg (fun H1 locs1 hP hD hS => kk H1 locs1 ⟨hP, hD, hS⟩)
theorem ldM_13 (cx : CxM p s m args c cc) (ok : okM E A s) (hw : wsM E σ A s H locs) {i : Int32} (hin : vp_in i 60) (hdg : decode cc pc = .ok (.iaload, 1)) (kk : W p l e R s m args below meth c H locs cells slots Q (F0 m (pc + 1) ls (.int (σ.1 13 i.toNatClampNeg) :: rest))) : W p l e R s m args below meth c H locs cells slots Q (F0 m pc ls (.int i :: .ref (E.2.2 13) :: rest)) := va_iald cx.1 cx.2.1 ok hw.1 8 1 rfl rfl hin hdg kk
theorem stM_13 (cx : CxM p s m args c cc) (ok : okM E A s) (hw : wsM E σ A s H locs) {i : Int32} {x : Int32} (hin : vp_in i 60) (hdg : decode cc pc = .ok (.iastore, 1)) (kk : ∀ (H1 : Heap) (locs1 : List Loc), wsM E (sI σ 13 i.toNatClampNeg x) A s H1 locs1 → W p l e R s m args below meth c H1 locs1 cells slots Q (F0 m (pc + 1) ls (rest))) : W p l e R s m args below meth c H locs cells slots Q (F0 m pc ls (.int x :: .int i :: .ref (E.2.2 13) :: rest)) := va_iast cx.1 cx.2.1 ok hw.1 hw.2.1 hw.2.2 8 1 rfl rfl hin hdg (fun H1 locs1 hP hD hS => kk H1 locs1 ⟨hP, hD, hS⟩)
theorem ldM_14 (cx : CxM p s m args c cc) (ok : okM E A s) (hw : wsM E σ A s H locs) {i : Int32} (hin : vp_in i 60) (hdg : decode cc pc = .ok (.iaload, 1)) (kk : W p l e R s m args below meth c H locs cells slots Q (F0 m (pc + 1) ls (.int (σ.1 14 i.toNatClampNeg) :: rest))) : W p l e R s m args below meth c H locs cells slots Q (F0 m pc ls (.int i :: .ref (E.2.2 14) :: rest)) := va_iald cx.1 cx.2.1 ok hw.1 9 1 rfl rfl hin hdg kk
theorem stM_14 (cx : CxM p s m args c cc) (ok : okM E A s) (hw : wsM E σ A s H locs) {i : Int32} {x : Int32} (hin : vp_in i 60) (hdg : decode cc pc = .ok (.iastore, 1)) (kk : ∀ (H1 : Heap) (locs1 : List Loc), wsM E (sI σ 14 i.toNatClampNeg x) A s H1 locs1 → W p l e R s m args below meth c H1 locs1 cells slots Q (F0 m (pc + 1) ls (rest))) : W p l e R s m args below meth c H locs cells slots Q (F0 m pc ls (.int x :: .int i :: .ref (E.2.2 14) :: rest)) := va_iast cx.1 cx.2.1 ok hw.1 hw.2.1 hw.2.2 9 1 rfl rfl hin hdg (fun H1 locs1 hP hD hS => kk H1 locs1 ⟨hP, hD, hS⟩)
theorem ldM_16 (cx : CxM p s m args c cc) (ok : okM E A s) (hw : wsM E σ A s H locs) {i : Int32} (hin : vp_in i 61) (hdg : decode cc pc = .ok (.iaload, 1)) (kk : W p l e R s m args below meth c H locs cells slots Q (F0 m (pc + 1) ls (.int (σ.1 16 i.toNatClampNeg) :: rest))) : W p l e R s m args below meth c H locs cells slots Q (F0 m pc ls (.int i :: .ref (E.2.2 16) :: rest)) := va_iald cx.1 cx.2.1 ok hw.1 10 1 rfl rfl hin hdg kk
theorem stM_16 (cx : CxM p s m args c cc) (ok : okM E A s) (hw : wsM E σ A s H locs) {i : Int32} {x : Int32} (hin : vp_in i 61) (hdg : decode cc pc = .ok (.iastore, 1)) (kk : ∀ (H1 : Heap) (locs1 : List Loc), wsM E (sI σ 16 i.toNatClampNeg x) A s H1 locs1 → W p l e R s m args below meth c H1 locs1 cells slots Q (F0 m (pc + 1) ls (rest))) : W p l e R s m args below meth c H locs cells slots Q (F0 m pc ls (.int x :: .int i :: .ref (E.2.2 16) :: rest)) := va_iast cx.1 cx.2.1 ok hw.1 hw.2.1 hw.2.2 10 1 rfl rfl hin hdg (fun H1 locs1 hP hD hS => kk H1 locs1 ⟨hP, hD, hS⟩)
theorem ldM_17 (cx : CxM p s m args c cc) (ok : okM E A s) (hw : wsM E σ A s H locs) {i : Int32} (hin : vp_in i 61) (hdg : decode cc pc = .ok (.iaload, 1)) (kk : W p l e R s m args below meth c H locs cells slots Q (F0 m (pc + 1) ls (.int (σ.1 17 i.toNatClampNeg) :: rest))) : W p l e R s m args below meth c H locs cells slots Q (F0 m pc ls (.int i :: .ref (E.2.2 17) :: rest)) := va_iald cx.1 cx.2.1 ok hw.1 11 1 rfl rfl hin hdg kk
theorem stM_17 (cx : CxM p s m args c cc) (ok : okM E A s) (hw : wsM E σ A s H locs) {i : Int32} {x : Int32} (hin : vp_in i 61) (hdg : decode cc pc = .ok (.iastore, 1)) (kk : ∀ (H1 : Heap) (locs1 : List Loc), wsM E (sI σ 17 i.toNatClampNeg x) A s H1 locs1 → W p l e R s m args below meth c H1 locs1 cells slots Q (F0 m (pc + 1) ls (rest))) : W p l e R s m args below meth c H locs cells slots Q (F0 m pc ls (.int x :: .int i :: .ref (E.2.2 17) :: rest)) := va_iast cx.1 cx.2.1 ok hw.1 hw.2.1 hw.2.2 11 1 rfl rfl hin hdg (fun H1 locs1 hP hD hS => kk H1 locs1 ⟨hP, hD, hS⟩)
theorem ldM_18 (cx : CxM p s m args c cc) (ok : okM E A s) (hw : wsM E σ A s H locs) {i : Int32} (hin : vp_in i 61) (hdg : decode cc pc = .ok (.iaload, 1)) (kk : W p l e R s m args below meth c H locs cells slots Q (F0 m (pc + 1) ls (.int (σ.1 18 i.toNatClampNeg) :: rest))) : W p l e R s m args below meth c H locs cells slots Q (F0 m pc ls (.int i :: .ref (E.2.2 18) :: rest)) := va_iald cx.1 cx.2.1 ok hw.1 12 1 rfl rfl hin hdg kk
theorem stM_18 (cx : CxM p s m args c cc) (ok : okM E A s) (hw : wsM E σ A s H locs) {i : Int32} {x : Int32} (hin : vp_in i 61) (hdg : decode cc pc = .ok (.iastore, 1)) (kk : ∀ (H1 : Heap) (locs1 : List Loc), wsM E (sI σ 18 i.toNatClampNeg x) A s H1 locs1 → W p l e R s m args below meth c H1 locs1 cells slots Q (F0 m (pc + 1) ls (rest))) : W p l e R s m args below meth c H locs cells slots Q (F0 m pc ls (.int x :: .int i :: .ref (E.2.2 18) :: rest)) := va_iast cx.1 cx.2.1 ok hw.1 hw.2.1 hw.2.2 12 1 rfl rfl hin hdg (fun H1 locs1 hP hD hS => kk H1 locs1 ⟨hP, hD, hS⟩)
theorem ldM_19 (cx : CxM p s m args c cc) (ok : okM E A s) (hw : wsM E σ A s H locs) {i : Int32} (hin : vp_in i 61) (hdg : decode cc pc = .ok (.iaload, 1)) (kk : W p l e R s m args below meth c H locs cells slots Q (F0 m (pc + 1) ls (.int (σ.1 19 i.toNatClampNeg) :: rest))) : W p l e R s m args below meth c H locs cells slots Q (F0 m pc ls (.int i :: .ref (E.2.2 19) :: rest)) := va_iald cx.1 cx.2.1 ok hw.1 13 1 rfl rfl hin hdg kk
theorem stM_19 (cx : CxM p s m args c cc) (ok : okM E A s) (hw : wsM E σ A s H locs) {i : Int32} {x : Int32} (hin : vp_in i 61) (hdg : decode cc pc = .ok (.iastore, 1)) (kk : ∀ (H1 : Heap) (locs1 : List Loc), wsM E (sI σ 19 i.toNatClampNeg x) A s H1 locs1 → W p l e R s m args below meth c H1 locs1 cells slots Q (F0 m (pc + 1) ls (rest))) : W p l e R s m args below meth c H locs cells slots Q (F0 m pc ls (.int x :: .int i :: .ref (E.2.2 19) :: rest)) := va_iast cx.1 cx.2.1 ok hw.1 hw.2.1 hw.2.2 13 1 rfl rfl hin hdg (fun H1 locs1 hP hD hS => kk H1 locs1 ⟨hP, hD, hS⟩)
theorem ldM_20 (cx : CxM p s m args c cc) (ok : okM E A s) (hw : wsM E σ A s H locs) {i : Int32} (hin : vp_in i 61) (hdg : decode cc pc = .ok (.iaload, 1)) (kk : W p l e R s m args below meth c H locs cells slots Q (F0 m (pc + 1) ls (.int (σ.1 20 i.toNatClampNeg) :: rest))) : W p l e R s m args below meth c H locs cells slots Q (F0 m pc ls (.int i :: .ref (E.2.2 20) :: rest)) := va_iald cx.1 cx.2.1 ok hw.1 14 1 rfl rfl hin hdg kk
theorem stM_20 (cx : CxM p s m args c cc) (ok : okM E A s) (hw : wsM E σ A s H locs) {i : Int32} {x : Int32} (hin : vp_in i 61) (hdg : decode cc pc = .ok (.iastore, 1)) (kk : ∀ (H1 : Heap) (locs1 : List Loc), wsM E (sI σ 20 i.toNatClampNeg x) A s H1 locs1 → W p l e R s m args below meth c H1 locs1 cells slots Q (F0 m (pc + 1) ls (rest))) : W p l e R s m args below meth c H locs cells slots Q (F0 m pc ls (.int x :: .int i :: .ref (E.2.2 20) :: rest)) := va_iast cx.1 cx.2.1 ok hw.1 hw.2.1 hw.2.2 14 1 rfl rfl hin hdg (fun H1 locs1 hP hD hS => kk H1 locs1 ⟨hP, hD, hS⟩)
theorem ldM_23 (cx : CxM p s m args c cc) (ok : okM E A s) (hw : wsM E σ A s H locs) {i : Int32} (hin : vp_in i 676) (hdg : decode cc pc = .ok (.baload, 1)) (kk : W p l e R s m args below meth c H locs cells slots Q (F0 m (pc + 1) ls (.int (σ.1 23 i.toNatClampNeg) :: rest))) : W p l e R s m args below meth c H locs cells slots Q (F0 m pc ls (.int i :: .ref (E.2.2 23) :: rest)) := va_zald cx.1 cx.2.1 ok hw.1 15 3 rfl rfl hin hdg kk
theorem stM_23 (cx : CxM p s m args c cc) (ok : okM E A s) (hw : wsM E σ A s H locs) {i : Int32} {x : Int32} (hin : vp_in i 676) (hdg : decode cc pc = .ok (.bastore, 1)) (kk : ∀ (H1 : Heap) (locs1 : List Loc), wsM E (sI σ 23 i.toNatClampNeg (vp_nar .boolean x)) A s H1 locs1 → W p l e R s m args below meth c H1 locs1 cells slots Q (F0 m (pc + 1) ls (rest))) : W p l e R s m args below meth c H locs cells slots Q (F0 m pc ls (.int x :: .int i :: .ref (E.2.2 23) :: rest)) := va_zast cx.1 cx.2.1 ok hw.1 hw.2.1 hw.2.2 15 3 rfl rfl hin hdg (fun H1 locs1 hP hD hS => kk H1 locs1 ⟨hP, hD, hS⟩)
theorem ldM_26 (cx : CxM p s m args c cc) (ok : okM E A s) (hw : wsM E σ A s H locs) {i : Int32} (hin : vp_in i 60) (hdg : decode cc pc = .ok (.iaload, 1)) (kk : W p l e R s m args below meth c H locs cells slots Q (F0 m (pc + 1) ls (.int (σ.1 26 i.toNatClampNeg) :: rest))) : W p l e R s m args below meth c H locs cells slots Q (F0 m pc ls (.int i :: .ref (E.2.2 26) :: rest)) := va_iald cx.1 cx.2.1 ok hw.1 16 1 rfl rfl hin hdg kk
theorem stM_26 (cx : CxM p s m args c cc) (ok : okM E A s) (hw : wsM E σ A s H locs) {i : Int32} {x : Int32} (hin : vp_in i 60) (hdg : decode cc pc = .ok (.iastore, 1)) (kk : ∀ (H1 : Heap) (locs1 : List Loc), wsM E (sI σ 26 i.toNatClampNeg x) A s H1 locs1 → W p l e R s m args below meth c H1 locs1 cells slots Q (F0 m (pc + 1) ls (rest))) : W p l e R s m args below meth c H locs cells slots Q (F0 m pc ls (.int x :: .int i :: .ref (E.2.2 26) :: rest)) := va_iast cx.1 cx.2.1 ok hw.1 hw.2.1 hw.2.2 16 1 rfl rfl hin hdg (fun H1 locs1 hP hD hS => kk H1 locs1 ⟨hP, hD, hS⟩)
theorem ldM_27 (cx : CxM p s m args c cc) (ok : okM E A s) (hw : wsM E σ A s H locs) {i : Int32} (hin : vp_in i 60) (hdg : decode cc pc = .ok (.iaload, 1)) (kk : W p l e R s m args below meth c H locs cells slots Q (F0 m (pc + 1) ls (.int (σ.1 27 i.toNatClampNeg) :: rest))) : W p l e R s m args below meth c H locs cells slots Q (F0 m pc ls (.int i :: .ref (E.2.2 27) :: rest)) := va_iald cx.1 cx.2.1 ok hw.1 17 1 rfl rfl hin hdg kk
theorem stM_27 (cx : CxM p s m args c cc) (ok : okM E A s) (hw : wsM E σ A s H locs) {i : Int32} {x : Int32} (hin : vp_in i 60) (hdg : decode cc pc = .ok (.iastore, 1)) (kk : ∀ (H1 : Heap) (locs1 : List Loc), wsM E (sI σ 27 i.toNatClampNeg x) A s H1 locs1 → W p l e R s m args below meth c H1 locs1 cells slots Q (F0 m (pc + 1) ls (rest))) : W p l e R s m args below meth c H locs cells slots Q (F0 m pc ls (.int x :: .int i :: .ref (E.2.2 27) :: rest)) := va_iast cx.1 cx.2.1 ok hw.1 hw.2.1 hw.2.2 17 1 rfl rfl hin hdg (fun H1 locs1 hP hD hS => kk H1 locs1 ⟨hP, hD, hS⟩)
theorem ldM_28 (cx : CxM p s m args c cc) (ok : okM E A s) (hw : wsM E σ A s H locs) {i : Int32} (hin : vp_in i 60) (hdg : decode cc pc = .ok (.iaload, 1)) (kk : W p l e R s m args below meth c H locs cells slots Q (F0 m (pc + 1) ls (.int (σ.1 28 i.toNatClampNeg) :: rest))) : W p l e R s m args below meth c H locs cells slots Q (F0 m pc ls (.int i :: .ref (E.2.2 28) :: rest)) := va_iald cx.1 cx.2.1 ok hw.1 18 1 rfl rfl hin hdg kk
theorem stM_28 (cx : CxM p s m args c cc) (ok : okM E A s) (hw : wsM E σ A s H locs) {i : Int32} {x : Int32} (hin : vp_in i 60) (hdg : decode cc pc = .ok (.iastore, 1)) (kk : ∀ (H1 : Heap) (locs1 : List Loc), wsM E (sI σ 28 i.toNatClampNeg x) A s H1 locs1 → W p l e R s m args below meth c H1 locs1 cells slots Q (F0 m (pc + 1) ls (rest))) : W p l e R s m args below meth c H locs cells slots Q (F0 m pc ls (.int x :: .int i :: .ref (E.2.2 28) :: rest)) := va_iast cx.1 cx.2.1 ok hw.1 hw.2.1 hw.2.2 18 1 rfl rfl hin hdg (fun H1 locs1 hP hD hS => kk H1 locs1 ⟨hP, hD, hS⟩)
theorem ldM_29 (cx : CxM p s m args c cc) (ok : okM E A s) (hw : wsM E σ A s H locs) {i : Int32} (hin : vp_in i 60) (hdg : decode cc pc = .ok (.iaload, 1)) (kk : W p l e R s m args below meth c H locs cells slots Q (F0 m (pc + 1) ls (.int (σ.1 29 i.toNatClampNeg) :: rest))) : W p l e R s m args below meth c H locs cells slots Q (F0 m pc ls (.int i :: .ref (E.2.2 29) :: rest)) := va_iald cx.1 cx.2.1 ok hw.1 19 1 rfl rfl hin hdg kk
theorem stM_29 (cx : CxM p s m args c cc) (ok : okM E A s) (hw : wsM E σ A s H locs) {i : Int32} {x : Int32} (hin : vp_in i 60) (hdg : decode cc pc = .ok (.iastore, 1)) (kk : ∀ (H1 : Heap) (locs1 : List Loc), wsM E (sI σ 29 i.toNatClampNeg x) A s H1 locs1 → W p l e R s m args below meth c H1 locs1 cells slots Q (F0 m (pc + 1) ls (rest))) : W p l e R s m args below meth c H locs cells slots Q (F0 m pc ls (.int x :: .int i :: .ref (E.2.2 29) :: rest)) := va_iast cx.1 cx.2.1 ok hw.1 hw.2.1 hw.2.2 19 1 rfl rfl hin hdg (fun H1 locs1 hP hD hS => kk H1 locs1 ⟨hP, hD, hS⟩)
theorem ldM_30 (cx : CxM p s m args c cc) (ok : okM E A s) (hw : wsM E σ A s H locs) {i : Int32} (hin : vp_in i 24) (hdg : decode cc pc = .ok (.iaload, 1)) (kk : W p l e R s m args below meth c H locs cells slots Q (F0 m (pc + 1) ls (.int (σ.1 30 i.toNatClampNeg) :: rest))) : W p l e R s m args below meth c H locs cells slots Q (F0 m pc ls (.int i :: .ref (E.2.2 30) :: rest)) := va_iald cx.1 cx.2.1 ok hw.1 20 1 rfl rfl hin hdg kk
theorem stM_30 (cx : CxM p s m args c cc) (ok : okM E A s) (hw : wsM E σ A s H locs) {i : Int32} {x : Int32} (hin : vp_in i 24) (hdg : decode cc pc = .ok (.iastore, 1)) (kk : ∀ (H1 : Heap) (locs1 : List Loc), wsM E (sI σ 30 i.toNatClampNeg x) A s H1 locs1 → W p l e R s m args below meth c H1 locs1 cells slots Q (F0 m (pc + 1) ls (rest))) : W p l e R s m args below meth c H locs cells slots Q (F0 m pc ls (.int x :: .int i :: .ref (E.2.2 30) :: rest)) := va_iast cx.1 cx.2.1 ok hw.1 hw.2.1 hw.2.2 20 1 rfl rfl hin hdg (fun H1 locs1 hP hD hS => kk H1 locs1 ⟨hP, hD, hS⟩)
theorem ldM_31 (cx : CxM p s m args c cc) (ok : okM E A s) (hw : wsM E σ A s H locs) {i : Int32} (hin : vp_in i 1920) (hdg : decode cc pc = .ok (.iaload, 1)) (kk : W p l e R s m args below meth c H locs cells slots Q (F0 m (pc + 1) ls (.int (σ.1 31 i.toNatClampNeg) :: rest))) : W p l e R s m args below meth c H locs cells slots Q (F0 m pc ls (.int i :: .ref (E.2.2 31) :: rest)) := va_iald cx.1 cx.2.1 ok hw.1 21 1 rfl rfl hin hdg kk
theorem stM_31 (cx : CxM p s m args c cc) (ok : okM E A s) (hw : wsM E σ A s H locs) {i : Int32} {x : Int32} (hin : vp_in i 1920) (hdg : decode cc pc = .ok (.iastore, 1)) (kk : ∀ (H1 : Heap) (locs1 : List Loc), wsM E (sI σ 31 i.toNatClampNeg x) A s H1 locs1 → W p l e R s m args below meth c H1 locs1 cells slots Q (F0 m (pc + 1) ls (rest))) : W p l e R s m args below meth c H locs cells slots Q (F0 m pc ls (.int x :: .int i :: .ref (E.2.2 31) :: rest)) := va_iast cx.1 cx.2.1 ok hw.1 hw.2.1 hw.2.2 21 1 rfl rfl hin hdg (fun H1 locs1 hP hD hS => kk H1 locs1 ⟨hP, hD, hS⟩)
theorem ldM_32 (cx : CxM p s m args c cc) (ok : okM E A s) (hw : wsM E σ A s H locs) {i : Int32} (hin : vp_in i 1920) (hdg : decode cc pc = .ok (.iaload, 1)) (kk : W p l e R s m args below meth c H locs cells slots Q (F0 m (pc + 1) ls (.int (σ.1 32 i.toNatClampNeg) :: rest))) : W p l e R s m args below meth c H locs cells slots Q (F0 m pc ls (.int i :: .ref (E.2.2 32) :: rest)) := va_iald cx.1 cx.2.1 ok hw.1 22 1 rfl rfl hin hdg kk
theorem stM_32 (cx : CxM p s m args c cc) (ok : okM E A s) (hw : wsM E σ A s H locs) {i : Int32} {x : Int32} (hin : vp_in i 1920) (hdg : decode cc pc = .ok (.iastore, 1)) (kk : ∀ (H1 : Heap) (locs1 : List Loc), wsM E (sI σ 32 i.toNatClampNeg x) A s H1 locs1 → W p l e R s m args below meth c H1 locs1 cells slots Q (F0 m (pc + 1) ls (rest))) : W p l e R s m args below meth c H locs cells slots Q (F0 m pc ls (.int x :: .int i :: .ref (E.2.2 32) :: rest)) := va_iast cx.1 cx.2.1 ok hw.1 hw.2.1 hw.2.2 22 1 rfl rfl hin hdg (fun H1 locs1 hP hD hS => kk H1 locs1 ⟨hP, hD, hS⟩)
theorem ldM_33 (cx : CxM p s m args c cc) (ok : okM E A s) (hw : wsM E σ A s H locs) {i : Int32} (hin : vp_in i 7800) (hdg : decode cc pc = .ok (.iaload, 1)) (kk : W p l e R s m args below meth c H locs cells slots Q (F0 m (pc + 1) ls (.int (σ.1 33 i.toNatClampNeg) :: rest))) : W p l e R s m args below meth c H locs cells slots Q (F0 m pc ls (.int i :: .ref (E.2.2 33) :: rest)) := va_iald cx.1 cx.2.1 ok hw.1 23 1 rfl rfl hin hdg kk
theorem stM_33 (cx : CxM p s m args c cc) (ok : okM E A s) (hw : wsM E σ A s H locs) {i : Int32} {x : Int32} (hin : vp_in i 7800) (hdg : decode cc pc = .ok (.iastore, 1)) (kk : ∀ (H1 : Heap) (locs1 : List Loc), wsM E (sI σ 33 i.toNatClampNeg x) A s H1 locs1 → W p l e R s m args below meth c H1 locs1 cells slots Q (F0 m (pc + 1) ls (rest))) : W p l e R s m args below meth c H locs cells slots Q (F0 m pc ls (.int x :: .int i :: .ref (E.2.2 33) :: rest)) := va_iast cx.1 cx.2.1 ok hw.1 hw.2.1 hw.2.2 23 1 rfl rfl hin hdg (fun H1 locs1 hP hD hS => kk H1 locs1 ⟨hP, hD, hS⟩)
theorem ldM_34 (cx : CxM p s m args c cc) (ok : okM E A s) (hw : wsM E σ A s H locs) {i : Int32} (hin : vp_in i 7800) (hdg : decode cc pc = .ok (.laload, 1)) (kk : W p l e R s m args below meth c H locs cells slots Q (F0 m (pc + 1) ls (.long (σ.2 34 i.toNatClampNeg) :: rest))) : W p l e R s m args below meth c H locs cells slots Q (F0 m pc ls (.int i :: .ref (E.2.2 34) :: rest)) := va_lald cx.1 cx.2.1 ok hw.1 24 2 rfl rfl hin hdg kk
theorem stM_34 (cx : CxM p s m args c cc) (ok : okM E A s) (hw : wsM E σ A s H locs) {i : Int32} {x : Int64} (hin : vp_in i 7800) (hdg : decode cc pc = .ok (.lastore, 1)) (kk : ∀ (H1 : Heap) (locs1 : List Loc), wsM E (sJ σ 34 i.toNatClampNeg x) A s H1 locs1 → W p l e R s m args below meth c H1 locs1 cells slots Q (F0 m (pc + 1) ls (rest))) : W p l e R s m args below meth c H locs cells slots Q (F0 m pc ls (.long x :: .int i :: .ref (E.2.2 34) :: rest)) := va_last cx.1 cx.2.1 ok hw.1 hw.2.1 hw.2.2 24 2 rfl rfl hin hdg (fun H1 locs1 hP hD hS => kk H1 locs1 ⟨hP, hD, hS⟩)
theorem ldM_35 (cx : CxM p s m args c cc) (ok : okM E A s) (hw : wsM E σ A s H locs) {i : Int32} (hin : vp_in i 234000) (hdg : decode cc pc = .ok (.iaload, 1)) (kk : W p l e R s m args below meth c H locs cells slots Q (F0 m (pc + 1) ls (.int (σ.1 35 i.toNatClampNeg) :: rest))) : W p l e R s m args below meth c H locs cells slots Q (F0 m pc ls (.int i :: .ref (E.2.2 35) :: rest)) := va_iald cx.1 cx.2.1 ok hw.1 25 1 rfl rfl hin hdg kk
theorem stM_35 (cx : CxM p s m args c cc) (ok : okM E A s) (hw : wsM E σ A s H locs) {i : Int32} {x : Int32} (hin : vp_in i 234000) (hdg : decode cc pc = .ok (.iastore, 1)) (kk : ∀ (H1 : Heap) (locs1 : List Loc), wsM E (sI σ 35 i.toNatClampNeg x) A s H1 locs1 → W p l e R s m args below meth c H1 locs1 cells slots Q (F0 m (pc + 1) ls (rest))) : W p l e R s m args below meth c H locs cells slots Q (F0 m pc ls (.int x :: .int i :: .ref (E.2.2 35) :: rest)) := va_iast cx.1 cx.2.1 ok hw.1 hw.2.1 hw.2.2 25 1 rfl rfl hin hdg (fun H1 locs1 hP hD hS => kk H1 locs1 ⟨hP, hD, hS⟩)
theorem ldM_36 (cx : CxM p s m args c cc) (ok : okM E A s) (hw : wsM E σ A s H locs) {i : Int32} (hin : vp_in i 234000) (hdg : decode cc pc = .ok (.iaload, 1)) (kk : W p l e R s m args below meth c H locs cells slots Q (F0 m (pc + 1) ls (.int (σ.1 36 i.toNatClampNeg) :: rest))) : W p l e R s m args below meth c H locs cells slots Q (F0 m pc ls (.int i :: .ref (E.2.2 36) :: rest)) := va_iald cx.1 cx.2.1 ok hw.1 26 1 rfl rfl hin hdg kk
theorem stM_36 (cx : CxM p s m args c cc) (ok : okM E A s) (hw : wsM E σ A s H locs) {i : Int32} {x : Int32} (hin : vp_in i 234000) (hdg : decode cc pc = .ok (.iastore, 1)) (kk : ∀ (H1 : Heap) (locs1 : List Loc), wsM E (sI σ 36 i.toNatClampNeg x) A s H1 locs1 → W p l e R s m args below meth c H1 locs1 cells slots Q (F0 m (pc + 1) ls (rest))) : W p l e R s m args below meth c H locs cells slots Q (F0 m pc ls (.int x :: .int i :: .ref (E.2.2 36) :: rest)) := va_iast cx.1 cx.2.1 ok hw.1 hw.2.1 hw.2.2 26 1 rfl rfl hin hdg (fun H1 locs1 hP hD hS => kk H1 locs1 ⟨hP, hD, hS⟩)
theorem ldM_37 (cx : CxM p s m args c cc) (ok : okM E A s) (hw : wsM E σ A s H locs) {i : Int32} (hin : vp_in i 26) (hdg : decode cc pc = .ok (.iaload, 1)) (kk : W p l e R s m args below meth c H locs cells slots Q (F0 m (pc + 1) ls (.int (σ.1 37 i.toNatClampNeg) :: rest))) : W p l e R s m args below meth c H locs cells slots Q (F0 m pc ls (.int i :: .ref (E.2.2 37) :: rest)) := va_iald cx.1 cx.2.1 ok hw.1 27 1 rfl rfl hin hdg kk
theorem stM_37 (cx : CxM p s m args c cc) (ok : okM E A s) (hw : wsM E σ A s H locs) {i : Int32} {x : Int32} (hin : vp_in i 26) (hdg : decode cc pc = .ok (.iastore, 1)) (kk : ∀ (H1 : Heap) (locs1 : List Loc), wsM E (sI σ 37 i.toNatClampNeg x) A s H1 locs1 → W p l e R s m args below meth c H1 locs1 cells slots Q (F0 m (pc + 1) ls (rest))) : W p l e R s m args below meth c H locs cells slots Q (F0 m pc ls (.int x :: .int i :: .ref (E.2.2 37) :: rest)) := va_iast cx.1 cx.2.1 ok hw.1 hw.2.1 hw.2.2 27 1 rfl rfl hin hdg (fun H1 locs1 hP hD hS => kk H1 locs1 ⟨hP, hD, hS⟩)
theorem ldM_39 (cx : CxM p s m args c cc) (ok : okM E A s) (hw : wsM E σ A s H locs) {i : Int32} (hin : vp_in i 64) (hdg : decode cc pc = .ok (.iaload, 1)) (kk : W p l e R s m args below meth c H locs cells slots Q (F0 m (pc + 1) ls (.int (σ.1 39 i.toNatClampNeg) :: rest))) : W p l e R s m args below meth c H locs cells slots Q (F0 m pc ls (.int i :: .ref (E.2.2 39) :: rest)) := va_iald cx.1 cx.2.1 ok hw.1 28 1 rfl rfl hin hdg kk
theorem stM_39 (cx : CxM p s m args c cc) (ok : okM E A s) (hw : wsM E σ A s H locs) {i : Int32} {x : Int32} (hin : vp_in i 64) (hdg : decode cc pc = .ok (.iastore, 1)) (kk : ∀ (H1 : Heap) (locs1 : List Loc), wsM E (sI σ 39 i.toNatClampNeg x) A s H1 locs1 → W p l e R s m args below meth c H1 locs1 cells slots Q (F0 m (pc + 1) ls (rest))) : W p l e R s m args below meth c H locs cells slots Q (F0 m pc ls (.int x :: .int i :: .ref (E.2.2 39) :: rest)) := va_iast cx.1 cx.2.1 ok hw.1 hw.2.1 hw.2.2 28 1 rfl rfl hin hdg (fun H1 locs1 hP hD hS => kk H1 locs1 ⟨hP, hD, hS⟩)
theorem ldM_40 (cx : CxM p s m args c cc) (ok : okM E A s) (hw : wsM E σ A s H locs) {i : Int32} (hin : vp_in i 64) (hdg : decode cc pc = .ok (.iaload, 1)) (kk : W p l e R s m args below meth c H locs cells slots Q (F0 m (pc + 1) ls (.int (σ.1 40 i.toNatClampNeg) :: rest))) : W p l e R s m args below meth c H locs cells slots Q (F0 m pc ls (.int i :: .ref (E.2.2 40) :: rest)) := va_iald cx.1 cx.2.1 ok hw.1 29 1 rfl rfl hin hdg kk
theorem stM_40 (cx : CxM p s m args c cc) (ok : okM E A s) (hw : wsM E σ A s H locs) {i : Int32} {x : Int32} (hin : vp_in i 64) (hdg : decode cc pc = .ok (.iastore, 1)) (kk : ∀ (H1 : Heap) (locs1 : List Loc), wsM E (sI σ 40 i.toNatClampNeg x) A s H1 locs1 → W p l e R s m args below meth c H1 locs1 cells slots Q (F0 m (pc + 1) ls (rest))) : W p l e R s m args below meth c H locs cells slots Q (F0 m pc ls (.int x :: .int i :: .ref (E.2.2 40) :: rest)) := va_iast cx.1 cx.2.1 ok hw.1 hw.2.1 hw.2.2 29 1 rfl rfl hin hdg (fun H1 locs1 hP hD hS => kk H1 locs1 ⟨hP, hD, hS⟩)
theorem ldM_41 (cx : CxM p s m args c cc) (ok : okM E A s) (hw : wsM E σ A s H locs) {i : Int32} (hin : vp_in i 64) (hdg : decode cc pc = .ok (.iaload, 1)) (kk : W p l e R s m args below meth c H locs cells slots Q (F0 m (pc + 1) ls (.int (σ.1 41 i.toNatClampNeg) :: rest))) : W p l e R s m args below meth c H locs cells slots Q (F0 m pc ls (.int i :: .ref (E.2.2 41) :: rest)) := va_iald cx.1 cx.2.1 ok hw.1 30 1 rfl rfl hin hdg kk
theorem stM_41 (cx : CxM p s m args c cc) (ok : okM E A s) (hw : wsM E σ A s H locs) {i : Int32} {x : Int32} (hin : vp_in i 64) (hdg : decode cc pc = .ok (.iastore, 1)) (kk : ∀ (H1 : Heap) (locs1 : List Loc), wsM E (sI σ 41 i.toNatClampNeg x) A s H1 locs1 → W p l e R s m args below meth c H1 locs1 cells slots Q (F0 m (pc + 1) ls (rest))) : W p l e R s m args below meth c H locs cells slots Q (F0 m pc ls (.int x :: .int i :: .ref (E.2.2 41) :: rest)) := va_iast cx.1 cx.2.1 ok hw.1 hw.2.1 hw.2.2 30 1 rfl rfl hin hdg (fun H1 locs1 hP hD hS => kk H1 locs1 ⟨hP, hD, hS⟩)
theorem ldM_42 (cx : CxM p s m args c cc) (ok : okM E A s) (hw : wsM E σ A s H locs) {i : Int32} (hin : vp_in i 64) (hdg : decode cc pc = .ok (.iaload, 1)) (kk : W p l e R s m args below meth c H locs cells slots Q (F0 m (pc + 1) ls (.int (σ.1 42 i.toNatClampNeg) :: rest))) : W p l e R s m args below meth c H locs cells slots Q (F0 m pc ls (.int i :: .ref (E.2.2 42) :: rest)) := va_iald cx.1 cx.2.1 ok hw.1 31 1 rfl rfl hin hdg kk
theorem stM_42 (cx : CxM p s m args c cc) (ok : okM E A s) (hw : wsM E σ A s H locs) {i : Int32} {x : Int32} (hin : vp_in i 64) (hdg : decode cc pc = .ok (.iastore, 1)) (kk : ∀ (H1 : Heap) (locs1 : List Loc), wsM E (sI σ 42 i.toNatClampNeg x) A s H1 locs1 → W p l e R s m args below meth c H1 locs1 cells slots Q (F0 m (pc + 1) ls (rest))) : W p l e R s m args below meth c H locs cells slots Q (F0 m pc ls (.int x :: .int i :: .ref (E.2.2 42) :: rest)) := va_iast cx.1 cx.2.1 ok hw.1 hw.2.1 hw.2.2 31 1 rfl rfl hin hdg (fun H1 locs1 hP hD hS => kk H1 locs1 ⟨hP, hD, hS⟩)
end
theorem enM {l : Launch} {y : MethodName} {cc : ByteArray} {maxL : Nat} {ret : Option FieldType} {rm : Room} {E : Ev} {As : List Value} {σ : St} {sz : Nat} {Qc : Array Value → State → Outcome → State → Prop} (hy : plainName y.cls = true) (hcls : y.cls = RX10) (hlen : (lg_sl As).length ≤ maxL)
    (body : ∀ (p : Program) (e : Env) (s : State) (m : MethodId) (below : List Frame) (meth : Method) (c : Code), CxM p s m As.toArray c cc → meth.sig.returnType = ret → meth.locks = false → c.maxLocals = maxL → s.heap.size = sz → okM E (va_A (wldM E σ) sz) s → wsM E σ (va_A (wldM E σ) sz) s s.heap [] →
      ∀ ls : Array Slot, lv_has ls maxL (lv_args 0 As) → W p l e rm s m As.toArray below meth c s.heap [] 0 0 (MQ below Qc As.toArray s 0 0 (va_A (wldM E σ) sz)) (F0 m 0 ls [])) :
    Met l y (wz y cc maxL ret) rm (PwM E As σ sz) Qc 0 0 (va_A (wldM E σ) sz) := by
  refine Met.ofW (cc := cc) (maxL := maxL) (ret := ret) hy rfl ?_
  intro p e s m args below meth c s₁ B hml hv
  obtain ⟨rfl, hsz, hP, hD, hK⟩ := hv
  have hts := atoms_spec (ws := wz y cc maxL ret) B.pre
  have hown : s.vm.findClass RX10 = some m.cls := by rw [← hcls]; exact findClass_of_methodNamed B.named
  have hl := lv_entry As (n := maxL) hlen
  rw [lg_entry_eq]
  exact body p e s m below meth c ⟨B.exec, B.bytes, hown, fun w hw => hts w (List.mem_cons_of_mem _ hw)⟩ B.returns B.notSynchronized hml hsz hK ⟨hP, hD.self, va_S.rf⟩ _ hl
section
variable {p : Program} {l : Launch} {e : Env} {R : Room} {s : State} {m : MethodId} {args : Array Value} {below : List Frame} {meth : Method} {c : Code} {H : Heap} {locs : List Loc} {cells slots : Nat} {Q : State → Prop} {cc : ByteArray} {pc : Nat} {ls : Array Slot} {rest : List Value} {A : Nat → Prop} {E : Ev} {σ σ0 σ' : St} {sz : Nat}
theorem rtM_i {v r : Int32} (cx : CxM p s m args c cc) (hr : meth.sig.returnType = some .int) (hlk : meth.locks = false) (hw : wsM E σ (va_A (wldM E σ0) sz) s H locs) (hm : some (v, σ) = some (r, σ')) (hdg : decode cc pc = .ok (.ireturn, 1)) : W p l e R s m args below meth c H locs cells slots (MQ below (QiM E σ0 σ' sz r) args s cells slots (va_A (wldM E σ0) sz)) (F0 m pc ls [.int v]) := by
  cases hm
  exact W.iret cx.1 cx.2.1 hr (fun t ht hW => ⟨⟨_, (), rfl, rfl, by rw [ht]; exact hw.1, hw.2.1⟩, hw.2.2.F ht⟩) hw.2.2.2.2 hdg hlk
theorem rtM_z {v r : Int32} (cx : CxM p s m args c cc) (hr : meth.sig.returnType = some .boolean) (hlk : meth.locks = false) (hw : wsM E σ (va_A (wldM E σ0) sz) s H locs) (h01 : v = 0 ∨ v = 1) (hm : some (v, σ) = some (r, σ')) (hdg : decode cc pc = .ok (.ireturn, 1)) : W p l e R s m args below meth c H locs cells slots (MQ below (QiM E σ0 σ' sz r) args s cells slots (va_A (wldM E σ0) sz)) (F0 m pc ls [.int v]) := by
  cases hm
  exact W.zret cx.1 cx.2.1 hr (nb01 h01) (fun t ht hW => ⟨⟨_, (), rfl, rfl, by rw [ht]; exact hw.1, hw.2.1⟩, hw.2.2.F ht⟩) hw.2.2.2.2 hdg hlk
theorem rtM_l {v r : Int64} (cx : CxM p s m args c cc) (hr : meth.sig.returnType = some .long) (hlk : meth.locks = false) (hw : wsM E σ (va_A (wldM E σ0) sz) s H locs) (hm : some (v, σ) = some (r, σ')) (hdg : decode cc pc = .ok (.lreturn, 1)) : W p l e R s m args below meth c H locs cells slots (MQ below (QlM E σ0 σ' sz r) args s cells slots (va_A (wldM E σ0) sz)) (F0 m pc ls [.long v]) := by
  cases hm
  exact W.lret cx.1 cx.2.1 hr (fun t ht hW => ⟨⟨_, (), rfl, rfl, by rw [ht]; exact hw.1, hw.2.1⟩, hw.2.2.F ht⟩) hw.2.2.2.2 hdg hlk
theorem rtM_v (cx : CxM p s m args c cc) (hr : meth.sig.returnType = none) (hlk : meth.locks = false) (hw : wsM E σ (va_A (wldM E σ0) sz) s H locs) (hm : some σ = some σ') (hdg : decode cc pc = .ok (.return_, 1)) : W p l e R s m args below meth c H locs cells slots (MQ below (QvM E σ0 σ' sz) args s cells slots (va_A (wldM E σ0) sz)) (F0 m pc ls []) := by
  cases hm
  exact W.vret cx.1 cx.2.1 hr (fun t ht hW => ⟨⟨(), rfl, trivial, by rw [ht]; exact hw.1, hw.2.1⟩, hw.2.2.F ht⟩) hw.2.2.2.2 hdg hlk
theorem pr_some {α β : Type} {a b : α} {u : β} (h : some a = some b) : some (a, u) = some (b, u) := by cases h; rfl
theorem frM (hw : wsM E σ A s H locs) (hA : ∀ q, s.heap.size ≤ q → A q) : ∀ q, va_A (wldM E σ) H.size q → A q := fun q h => by
  rcases h with ⟨k, e, h⟩ | h
  · exact hw.2.1.2 k (q, e) h
  · exact hA q (Nat.le_trans hw.2.2.1 h)
theorem prM {As : List Value} (ok : okM E A s) (hw : wsM E σ A s H locs) : ∀ U : State, U.heap = H → s.WarmedH U.vm → PwM E As σ H.size As.toArray U := fun U hU hW => ⟨rfl, by rw [hU], by rw [hU]; exact hw.1, hw.2.1.weaken (fun _ _ _ _ => trivial), va_K.moved hW.alike ok⟩
theorem rcM (ok : okM E A s) (hw : wsM E σ A s H locs) : ∃ cell : Cell, H[E.2.2 1000]? = some cell ∧ cell.vm.isStatics = false ∧ s.vm.findClass RX10 = some cell.cls := va_recv ok hw.1 (ci := 11) (q := (RX10, TX10, 48)) (q0 := 0) rfl rfl
theorem bkM {t : State} {H1 : Heap} {locs1 : List Loc} (hw : wsM E σ A s H locs) (hA : ∀ q, s.heap.size ≤ q → A q) (ht : t.heap = H1) (hB : va_P E.1 vwCl (wldM E σ') t.heap ∧ va_D (va_A (wldM E σ) H.size) (wldM E σ')) (hS : va_S A s.heap H1 locs1) : wsM E σ' A s H1 locs1 := ⟨by rw [← ht]; exact hB.1, hB.2.weaken (fun _ _ _ h => frM hw hA _ h), hS⟩
theorem clV_Mi {y : MethodName} {b : ByteArray} {mxl idx nn nL : Nat} {ret : Option FieldType} {rm : Room} {As st : List Value} {r : Int32} (cx : CxM p s m args c cc) (hml : c.maxLocals = nL) (hsl : ls.size = nL) (ok : okM E A s) (hw : wsM E σ A s H locs) (hA : ∀ q, s.heap.size ≤ q → A q)
    (hM : Met l y (wz y b mxl ret) rm (PwM E (.ref (E.2.2 1000) :: As) σ H.size) (QiM E σ σ' H.size r) 0 0 (va_A (wldM E σ) H.size)) (cw : CallW R s args RX10 RX10 idx y b mxl ret (wz y b mxl ret) rm 0 0 nn) (hn : As.length = nn) (hst : st = As.reverse ++ .ref (E.2.2 1000) :: rest) (hW : (rest.map fun v => v.category).sum ≤ 8) (hdg : decode cc pc = .ok (.invokevirtual idx, 3))
    (kk : ∀ (H1 : Heap) (locs1 : List Loc), wsM E σ' A s H1 locs1 → W p l e R s m args below meth c H1 locs1 0 0 Q (F0 m (pc + 3) ls (.int r :: rest))) : W p l e R s m args below meth c H locs 0 0 Q (F0 m pc ls st) := by
  subst hst
  exact va_calli (va_runV (As := As) (rest := rest) ⟨cx.1, cx.2.1, hml, cx.2.2.1, cx.2.2.2⟩ hM cw ⟨PwM_blind, rcM ok hw, prM ok hw⟩ rfl hn hsl rfl (lv_room hW) hdg ⟨Nat.zero_le _, Nat.zero_le _⟩) hw.2.2 (fun q _ h => frM hw hA q h) (fun q h => frM hw hA q h) (fun r2 u t H1 locs1 ht hvm hw2 hB hz1 hk1 hS => by cases hw2; exact kk H1 locs1 (bkM hw hA ht hB hS))
theorem clS_Mi {y : MethodName} {b : ByteArray} {mxl idx nn nL : Nat} {ret : Option FieldType} {rm : Room} {As st : List Value} {r : Int32} (cx : CxM p s m args c cc) (hml : c.maxLocals = nL) (hsl : ls.size = nL) (ok : okM E A s) (hw : wsM E σ A s H locs) (hA : ∀ q, s.heap.size ≤ q → A q)
    (hM : Met l y (wz y b mxl ret) rm (PwM E As σ H.size) (QiM E σ σ' H.size r) 0 0 (va_A (wldM E σ) H.size)) (cw : CallB R s args RX10 idx y b mxl ret (wz y b mxl ret) rm 0 0 nn ∧ (Cond.static y).before args s = true) (hn : As.length = nn) (hst : st = As.reverse ++ rest) (hW : (rest.map fun v => v.category).sum ≤ 8) (hdg : decode cc pc = .ok (.invokestatic idx, 3))
    (kk : ∀ (H1 : Heap) (locs1 : List Loc), wsM E σ' A s H1 locs1 → W p l e R s m args below meth c H1 locs1 0 0 Q (F0 m (pc + 3) ls (.int r :: rest))) : W p l e R s m args below meth c H locs 0 0 Q (F0 m pc ls st) := by
  subst hst
  exact va_calli (va_runS (As := As) (rest := rest) ⟨cx.1, cx.2.1, hml, cx.2.2.1, cx.2.2.2⟩ hM cw ⟨PwM_blind, prM ok hw⟩ rfl hn hsl rfl (lv_room hW) hdg ⟨Nat.zero_le _, Nat.zero_le _⟩) hw.2.2 (fun q _ h => frM hw hA q h) (fun q h => frM hw hA q h) (fun r2 u t H1 locs1 ht hvm hw2 hB hz1 hk1 hS => by cases hw2; exact kk H1 locs1 (bkM hw hA ht hB hS))
theorem clV_Ml {y : MethodName} {b : ByteArray} {mxl idx nn nL : Nat} {ret : Option FieldType} {rm : Room} {As st : List Value} {r : Int64} (cx : CxM p s m args c cc) (hml : c.maxLocals = nL) (hsl : ls.size = nL) (ok : okM E A s) (hw : wsM E σ A s H locs) (hA : ∀ q, s.heap.size ≤ q → A q)
    (hM : Met l y (wz y b mxl ret) rm (PwM E (.ref (E.2.2 1000) :: As) σ H.size) (QlM E σ σ' H.size r) 0 0 (va_A (wldM E σ) H.size)) (cw : CallW R s args RX10 RX10 idx y b mxl ret (wz y b mxl ret) rm 0 0 nn) (hn : As.length = nn) (hst : st = As.reverse ++ .ref (E.2.2 1000) :: rest) (hW : (rest.map fun v => v.category).sum ≤ 8) (hdg : decode cc pc = .ok (.invokevirtual idx, 3))
    (kk : ∀ (H1 : Heap) (locs1 : List Loc), wsM E σ' A s H1 locs1 → W p l e R s m args below meth c H1 locs1 0 0 Q (F0 m (pc + 3) ls (.long r :: rest))) : W p l e R s m args below meth c H locs 0 0 Q (F0 m pc ls st) := by
  subst hst
  exact va_calll (va_runV (As := As) (rest := rest) ⟨cx.1, cx.2.1, hml, cx.2.2.1, cx.2.2.2⟩ hM cw ⟨PwM_blind, rcM ok hw, prM ok hw⟩ rfl hn hsl rfl (lv_room hW) hdg ⟨Nat.zero_le _, Nat.zero_le _⟩) hw.2.2 (fun q _ h => frM hw hA q h) (fun q h => frM hw hA q h) (fun r2 u t H1 locs1 ht hvm hw2 hB hz1 hk1 hS => by cases hw2; exact kk H1 locs1 (bkM hw hA ht hB hS))
theorem clS_Ml {y : MethodName} {b : ByteArray} {mxl idx nn nL : Nat} {ret : Option FieldType} {rm : Room} {As st : List Value} {r : Int64} (cx : CxM p s m args c cc) (hml : c.maxLocals = nL) (hsl : ls.size = nL) (ok : okM E A s) (hw : wsM E σ A s H locs) (hA : ∀ q, s.heap.size ≤ q → A q)
    (hM : Met l y (wz y b mxl ret) rm (PwM E As σ H.size) (QlM E σ σ' H.size r) 0 0 (va_A (wldM E σ) H.size)) (cw : CallB R s args RX10 idx y b mxl ret (wz y b mxl ret) rm 0 0 nn ∧ (Cond.static y).before args s = true) (hn : As.length = nn) (hst : st = As.reverse ++ rest) (hW : (rest.map fun v => v.category).sum ≤ 8) (hdg : decode cc pc = .ok (.invokestatic idx, 3))
    (kk : ∀ (H1 : Heap) (locs1 : List Loc), wsM E σ' A s H1 locs1 → W p l e R s m args below meth c H1 locs1 0 0 Q (F0 m (pc + 3) ls (.long r :: rest))) : W p l e R s m args below meth c H locs 0 0 Q (F0 m pc ls st) := by
  subst hst
  exact va_calll (va_runS (As := As) (rest := rest) ⟨cx.1, cx.2.1, hml, cx.2.2.1, cx.2.2.2⟩ hM cw ⟨PwM_blind, prM ok hw⟩ rfl hn hsl rfl (lv_room hW) hdg ⟨Nat.zero_le _, Nat.zero_le _⟩) hw.2.2 (fun q _ h => frM hw hA q h) (fun q h => frM hw hA q h) (fun r2 u t H1 locs1 ht hvm hw2 hB hz1 hk1 hS => by cases hw2; exact kk H1 locs1 (bkM hw hA ht hB hS))
theorem clV_Mv {y : MethodName} {b : ByteArray} {mxl idx nn nL : Nat} {ret : Option FieldType} {rm : Room} {As st : List Value} (cx : CxM p s m args c cc) (hml : c.maxLocals = nL) (hsl : ls.size = nL) (ok : okM E A s) (hw : wsM E σ A s H locs) (hA : ∀ q, s.heap.size ≤ q → A q)
    (hM : Met l y (wz y b mxl ret) rm (PwM E (.ref (E.2.2 1000) :: As) σ H.size) (QvM E σ σ' H.size) 0 0 (va_A (wldM E σ) H.size)) (cw : CallW R s args RX10 RX10 idx y b mxl ret (wz y b mxl ret) rm 0 0 nn) (hn : As.length = nn) (hst : st = As.reverse ++ .ref (E.2.2 1000) :: rest) (hW : (rest.map fun v => v.category).sum ≤ 8) (hdg : decode cc pc = .ok (.invokevirtual idx, 3))
    (kk : ∀ (H1 : Heap) (locs1 : List Loc), wsM E σ' A s H1 locs1 → W p l e R s m args below meth c H1 locs1 0 0 Q (F0 m (pc + 3) ls (rest))) : W p l e R s m args below meth c H locs 0 0 Q (F0 m pc ls st) := by
  subst hst
  exact va_callv (va_runV (As := As) (rest := rest) ⟨cx.1, cx.2.1, hml, cx.2.2.1, cx.2.2.2⟩ hM cw ⟨PwM_blind, rcM ok hw, prM ok hw⟩ rfl hn hsl rfl (lv_room hW) hdg ⟨Nat.zero_le _, Nat.zero_le _⟩) hw.2.2 (fun q _ h => frM hw hA q h) (fun q h => frM hw hA q h) (fun u t H1 locs1 ht hvm hw2 hB hz1 hk1 hS => kk H1 locs1 (bkM hw hA ht hB hS))
theorem clS_Mv {y : MethodName} {b : ByteArray} {mxl idx nn nL : Nat} {ret : Option FieldType} {rm : Room} {As st : List Value} (cx : CxM p s m args c cc) (hml : c.maxLocals = nL) (hsl : ls.size = nL) (ok : okM E A s) (hw : wsM E σ A s H locs) (hA : ∀ q, s.heap.size ≤ q → A q)
    (hM : Met l y (wz y b mxl ret) rm (PwM E As σ H.size) (QvM E σ σ' H.size) 0 0 (va_A (wldM E σ) H.size)) (cw : CallB R s args RX10 idx y b mxl ret (wz y b mxl ret) rm 0 0 nn ∧ (Cond.static y).before args s = true) (hn : As.length = nn) (hst : st = As.reverse ++ rest) (hW : (rest.map fun v => v.category).sum ≤ 8) (hdg : decode cc pc = .ok (.invokestatic idx, 3))
    (kk : ∀ (H1 : Heap) (locs1 : List Loc), wsM E σ' A s H1 locs1 → W p l e R s m args below meth c H1 locs1 0 0 Q (F0 m (pc + 3) ls (rest))) : W p l e R s m args below meth c H locs 0 0 Q (F0 m pc ls st) := by
  subst hst
  exact va_callv (va_runS (As := As) (rest := rest) ⟨cx.1, cx.2.1, hml, cx.2.2.1, cx.2.2.2⟩ hM cw ⟨PwM_blind, prM ok hw⟩ rfl hn hsl rfl (lv_room hW) hdg ⟨Nat.zero_le _, Nat.zero_le _⟩) hw.2.2 (fun q _ h => frM hw hA q h) (fun q h => frM hw hA q h) (fun u t H1 locs1 ht hvm hw2 hB hz1 hk1 hS => kk H1 locs1 (bkM hw hA ht hB hS))
end
end
