section
-- ===== PART A: goes FIRST, ahead of the names: the tables' words, and 'selects' of the private methods out of them =====
/-- a private method of a class that the tables say can be made, by its rows of tables_1 -/
def lw_okq (q : MethodName × Nat) : Prop := (q.1.cls ≠ "java/lang/invoke/MethodHandle" ∧ q.1.cls ≠ "java/lang/invoke/VarHandle") ∧ Cond.instantiable q.1.cls q.2 ∈ tables_1 ∧ Cond.privateMethod q.1 ∈ tables_1 ∧ Cond.instanceMethod q.1 ∈ tables_1
theorem lw_p0 : lw_okq (⟨"ChordGrammars$Key", "change", "(IZ)Z"⟩, 2) := ⟨⟨by decide +kernel, by decide +kernel⟩, List.mem_of_getElem? (i := 34) (by decide +kernel), List.mem_of_getElem? (i := 297) (by decide +kernel), List.mem_of_getElem? (i := 298) (by decide +kernel)⟩
theorem lw_p1 : lw_okq (⟨"ChordGrammars$Tariff", "change", "(II)Z"⟩, 1) := ⟨⟨by decide +kernel, by decide +kernel⟩, List.mem_of_getElem? (i := 47) (by decide +kernel), List.mem_of_getElem? (i := 305) (by decide +kernel), List.mem_of_getElem? (i := 306) (by decide +kernel)⟩
theorem lw_p2 : lw_okq (⟨"ChordGrammars$Draft", "extend", "(IJ)I"⟩, 2) := ⟨⟨by decide +kernel, by decide +kernel⟩, List.mem_of_getElem? (i := 85) (by decide +kernel), List.mem_of_getElem? (i := 313) (by decide +kernel), List.mem_of_getElem? (i := 314) (by decide +kernel)⟩
theorem lw_p3 : lw_okq (⟨"ChordGrammars$Reader", "readAll", "(LChordGrammars$Draft;)I"⟩, 4) := ⟨⟨by decide +kernel, by decide +kernel⟩, List.mem_of_getElem? (i := 143) (by decide +kernel), List.mem_of_getElem? (i := 321) (by decide +kernel), List.mem_of_getElem? (i := 322) (by decide +kernel)⟩
theorem lw_p4 : lw_okq (⟨"ChordGrammars$Reader", "nextOctet", "(LChordGrammars$Draft;)I"⟩, 4) := ⟨⟨by decide +kernel, by decide +kernel⟩, List.mem_of_getElem? (i := 143) (by decide +kernel), List.mem_of_getElem? (i := 325) (by decide +kernel), List.mem_of_getElem? (i := 326) (by decide +kernel)⟩
theorem lw_p5 : lw_okq (⟨"ChordGrammars$Draft", "octetAt", "(I)I"⟩, 2) := ⟨⟨by decide +kernel, by decide +kernel⟩, List.mem_of_getElem? (i := 85) (by decide +kernel), List.mem_of_getElem? (i := 329) (by decide +kernel), List.mem_of_getElem? (i := 330) (by decide +kernel)⟩
theorem lw_p6 : lw_okq (⟨"ChordGrammars$Reader", "readRule", "(LChordGrammars$Draft;)Z"⟩, 4) := ⟨⟨by decide +kernel, by decide +kernel⟩, List.mem_of_getElem? (i := 143) (by decide +kernel), List.mem_of_getElem? (i := 333) (by decide +kernel), List.mem_of_getElem? (i := 334) (by decide +kernel)⟩
theorem lw_p7 : lw_okq (⟨"ChordGrammars$Reader", "takes", "(LChordGrammars$Draft;I)Z"⟩, 4) := ⟨⟨by decide +kernel, by decide +kernel⟩, List.mem_of_getElem? (i := 143) (by decide +kernel), List.mem_of_getElem? (i := 340) (by decide +kernel), List.mem_of_getElem? (i := 341) (by decide +kernel)⟩
theorem lw_p8 : lw_okq (⟨"ChordGrammars$Reader", "readItem", "(LChordGrammars$Draft;)I"⟩, 4) := ⟨⟨by decide +kernel, by decide +kernel⟩, List.mem_of_getElem? (i := 143) (by decide +kernel), List.mem_of_getElem? (i := 344) (by decide +kernel), List.mem_of_getElem? (i := 345) (by decide +kernel)⟩
theorem lw_p9 : lw_okq (⟨"ChordGrammars$Reader", "readCost", "(LChordGrammars$Draft;)I"⟩, 4) := ⟨⟨by decide +kernel, by decide +kernel⟩, List.mem_of_getElem? (i := 143) (by decide +kernel), List.mem_of_getElem? (i := 438) (by decide +kernel), List.mem_of_getElem? (i := 439) (by decide +kernel)⟩
theorem lw_p10 : lw_okq (⟨"ChordGrammars$Reader", "findReach", "()V"⟩, 4) := ⟨⟨by decide +kernel, by decide +kernel⟩, List.mem_of_getElem? (i := 143) (by decide +kernel), List.mem_of_getElem? (i := 445) (by decide +kernel), List.mem_of_getElem? (i := 446) (by decide +kernel)⟩
theorem lw_p11 : lw_okq (⟨"ChordGrammars$Grammar", "renames", "(I)Z"⟩, 6) := ⟨⟨by decide +kernel, by decide +kernel⟩, List.mem_of_getElem? (i := 101) (by decide +kernel), List.mem_of_getElem? (i := 449) (by decide +kernel), List.mem_of_getElem? (i := 450) (by decide +kernel)⟩
theorem lw_p12 : lw_okq (⟨"ChordGrammars$Reader", "reaches", "(II)Z"⟩, 4) := ⟨⟨by decide +kernel, by decide +kernel⟩, List.mem_of_getElem? (i := 143) (by decide +kernel), List.mem_of_getElem? (i := 453) (by decide +kernel), List.mem_of_getElem? (i := 454) (by decide +kernel)⟩
theorem lw_p13 : lw_okq (⟨"ChordGrammars$Reader", "ringPlace", "()I"⟩, 4) := ⟨⟨by decide +kernel, by decide +kernel⟩, List.mem_of_getElem? (i := 143) (by decide +kernel), List.mem_of_getElem? (i := 457) (by decide +kernel), List.mem_of_getElem? (i := 458) (by decide +kernel)⟩
theorem lw_p14 : lw_okq (⟨"ChordGrammars$Reader", "arrange", "()V"⟩, 4) := ⟨⟨by decide +kernel, by decide +kernel⟩, List.mem_of_getElem? (i := 143) (by decide +kernel), List.mem_of_getElem? (i := 461) (by decide +kernel), List.mem_of_getElem? (i := 462) (by decide +kernel)⟩
theorem lw_p15 : lw_okq (⟨"ChordGrammars$Grammar", "become", "(LChordGrammars$Grammar;)V"⟩, 6) := ⟨⟨by decide +kernel, by decide +kernel⟩, List.mem_of_getElem? (i := 101) (by decide +kernel), List.mem_of_getElem? (i := 471) (by decide +kernel), List.mem_of_getElem? (i := 472) (by decide +kernel)⟩
def lw_privs_1 : List (MethodName × Nat) := [(⟨"ChordGrammars$Key", "change", "(IZ)Z"⟩, 2), (⟨"ChordGrammars$Tariff", "change", "(II)Z"⟩, 1), (⟨"ChordGrammars$Draft", "extend", "(IJ)I"⟩, 2), (⟨"ChordGrammars$Reader", "readAll", "(LChordGrammars$Draft;)I"⟩, 4), (⟨"ChordGrammars$Reader", "nextOctet", "(LChordGrammars$Draft;)I"⟩, 4), (⟨"ChordGrammars$Draft", "octetAt", "(I)I"⟩, 2), (⟨"ChordGrammars$Reader", "readRule", "(LChordGrammars$Draft;)Z"⟩, 4), (⟨"ChordGrammars$Reader", "takes", "(LChordGrammars$Draft;I)Z"⟩, 4), (⟨"ChordGrammars$Reader", "readItem", "(LChordGrammars$Draft;)I"⟩, 4), (⟨"ChordGrammars$Reader", "readCost", "(LChordGrammars$Draft;)I"⟩, 4), (⟨"ChordGrammars$Reader", "findReach", "()V"⟩, 4), (⟨"ChordGrammars$Grammar", "renames", "(I)Z"⟩, 6), (⟨"ChordGrammars$Reader", "reaches", "(II)Z"⟩, 4), (⟨"ChordGrammars$Reader", "ringPlace", "()I"⟩, 4), (⟨"ChordGrammars$Reader", "arrange", "()V"⟩, 4), (⟨"ChordGrammars$Grammar", "become", "(LChordGrammars$Grammar;)V"⟩, 6)]
theorem lw_r1 : ∀ q ∈ lw_privs_1, lw_okq q := List.forall_mem_cons.mpr ⟨lw_p0, List.forall_mem_cons.mpr ⟨lw_p1, List.forall_mem_cons.mpr ⟨lw_p2, List.forall_mem_cons.mpr ⟨lw_p3, List.forall_mem_cons.mpr ⟨lw_p4, List.forall_mem_cons.mpr ⟨lw_p5, List.forall_mem_cons.mpr ⟨lw_p6, List.forall_mem_cons.mpr ⟨lw_p7, List.forall_mem_cons.mpr ⟨lw_p8, List.forall_mem_cons.mpr ⟨lw_p9, List.forall_mem_cons.mpr ⟨lw_p10, List.forall_mem_cons.mpr ⟨lw_p11, List.forall_mem_cons.mpr ⟨lw_p12, List.forall_mem_cons.mpr ⟨lw_p13, List.forall_mem_cons.mpr ⟨lw_p14, List.forall_mem_cons.mpr ⟨lw_p15, fun _ h => absurd h List.not_mem_nil⟩⟩⟩⟩⟩⟩⟩⟩⟩⟩⟩⟩⟩⟩⟩⟩
theorem lw_p16 : lw_okq (⟨"ChordGrammars$Slots", "add", "(III)I"⟩, 4) := ⟨⟨by decide +kernel, by decide +kernel⟩, List.mem_of_getElem? (i := 58) (by decide +kernel), List.mem_of_getElem? (i := 482) (by decide +kernel), List.mem_of_getElem? (i := 483) (by decide +kernel)⟩
theorem lw_p17 : lw_okq (⟨"ChordGrammars$Slots", "has", "(I)Z"⟩, 4) := ⟨⟨by decide +kernel, by decide +kernel⟩, List.mem_of_getElem? (i := 58) (by decide +kernel), List.mem_of_getElem? (i := 494) (by decide +kernel), List.mem_of_getElem? (i := 495) (by decide +kernel)⟩
theorem lw_p18 : lw_okq (⟨"ChordGrammars$Tariff", "ofFit", "(IIII)I"⟩, 1) := ⟨⟨by decide +kernel, by decide +kernel⟩, List.mem_of_getElem? (i := 47) (by decide +kernel), List.mem_of_getElem? (i := 498) (by decide +kernel), List.mem_of_getElem? (i := 499) (by decide +kernel)⟩
theorem lw_p19 : lw_okq (⟨"ChordGrammars$Tariff", "ofBass", "(III)I"⟩, 1) := ⟨⟨by decide +kernel, by decide +kernel⟩, List.mem_of_getElem? (i := 47) (by decide +kernel), List.mem_of_getElem? (i := 508) (by decide +kernel), List.mem_of_getElem? (i := 509) (by decide +kernel)⟩
theorem lw_p20 : lw_okq (⟨"ChordGrammars$Tariff", "cheapest", "(II)I"⟩, 1) := ⟨⟨by decide +kernel, by decide +kernel⟩, List.mem_of_getElem? (i := 47) (by decide +kernel), List.mem_of_getElem? (i := 516) (by decide +kernel), List.mem_of_getElem? (i := 517) (by decide +kernel)⟩
theorem lw_p21 : lw_okq (⟨"ChordGrammars$Chart", "listAll", "(LChordGrammars$Grammar;LChordGrammars$Slots;LChordGrammars$Key;LChordGrammars$Tariff;)V"⟩, 7) := ⟨⟨by decide +kernel, by decide +kernel⟩, List.mem_of_getElem? (i := 165) (by decide +kernel), List.mem_of_getElem? (i := 526) (by decide +kernel), List.mem_of_getElem? (i := 527) (by decide +kernel)⟩
theorem lw_p22 : lw_okq (⟨"ChordGrammars$Symbols", "fill", "(LChordGrammars$Slots;LChordGrammars$Key;LChordGrammars$Tariff;)V"⟩, 2) := ⟨⟨by decide +kernel, by decide +kernel⟩, List.mem_of_getElem? (i := 173) (by decide +kernel), List.mem_of_getElem? (i := 532) (by decide +kernel), List.mem_of_getElem? (i := 533) (by decide +kernel)⟩
theorem lw_p23 : lw_okq (⟨"ChordGrammars$Key", "rootOf", "(I)I"⟩, 2) := ⟨⟨by decide +kernel, by decide +kernel⟩, List.mem_of_getElem? (i := 34) (by decide +kernel), List.mem_of_getElem? (i := 536) (by decide +kernel), List.mem_of_getElem? (i := 537) (by decide +kernel)⟩
theorem lw_p24 : lw_okq (⟨"ChordGrammars$Symbols", "fillDegree", "(LChordGrammars$Slots;IIILChordGrammars$Tariff;)V"⟩, 2) := ⟨⟨by decide +kernel, by decide +kernel⟩, List.mem_of_getElem? (i := 173) (by decide +kernel), List.mem_of_getElem? (i := 544) (by decide +kernel), List.mem_of_getElem? (i := 545) (by decide +kernel)⟩
theorem lw_p25 : lw_okq (⟨"ChordGrammars$Chart", "fillSpan", "(II)V"⟩, 7) := ⟨⟨by decide +kernel, by decide +kernel⟩, List.mem_of_getElem? (i := 165) (by decide +kernel), List.mem_of_getElem? (i := 549) (by decide +kernel), List.mem_of_getElem? (i := 550) (by decide +kernel)⟩
theorem lw_p26 : lw_okq (⟨"ChordGrammars$Chart", "addWhole", "(III)V"⟩, 7) := ⟨⟨by decide +kernel, by decide +kernel⟩, List.mem_of_getElem? (i := 165) (by decide +kernel), List.mem_of_getElem? (i := 556) (by decide +kernel), List.mem_of_getElem? (i := 557) (by decide +kernel)⟩
theorem lw_p27 : lw_okq (⟨"ChordGrammars$Chart", "sizeOf", "(III)I"⟩, 7) := ⟨⟨by decide +kernel, by decide +kernel⟩, List.mem_of_getElem? (i := 165) (by decide +kernel), List.mem_of_getElem? (i := 560) (by decide +kernel), List.mem_of_getElem? (i := 561) (by decide +kernel)⟩
theorem lw_p28 : lw_okq (⟨"ChordGrammars$Chart", "chordOf", "(II)I"⟩, 7) := ⟨⟨by decide +kernel, by decide +kernel⟩, List.mem_of_getElem? (i := 165) (by decide +kernel), List.mem_of_getElem? (i := 564) (by decide +kernel), List.mem_of_getElem? (i := 565) (by decide +kernel)⟩
theorem lw_p29 : lw_okq (⟨"ChordGrammars$Chart", "countOf", "(III)J"⟩, 7) := ⟨⟨by decide +kernel, by decide +kernel⟩, List.mem_of_getElem? (i := 165) (by decide +kernel), List.mem_of_getElem? (i := 568) (by decide +kernel), List.mem_of_getElem? (i := 569) (by decide +kernel)⟩
theorem lw_p30 : lw_okq (⟨"ChordGrammars$Chart", "priceOf", "(IIII)I"⟩, 7) := ⟨⟨by decide +kernel, by decide +kernel⟩, List.mem_of_getElem? (i := 165) (by decide +kernel), List.mem_of_getElem? (i := 572) (by decide +kernel), List.mem_of_getElem? (i := 573) (by decide +kernel)⟩
theorem lw_p31 : lw_okq (⟨"ChordGrammars$Chart", "entryAt", "(IIII)J"⟩, 7) := ⟨⟨by decide +kernel, by decide +kernel⟩, List.mem_of_getElem? (i := 165) (by decide +kernel), List.mem_of_getElem? (i := 576) (by decide +kernel), List.mem_of_getElem? (i := 577) (by decide +kernel)⟩
def lw_privs_2 : List (MethodName × Nat) := [(⟨"ChordGrammars$Slots", "add", "(III)I"⟩, 4), (⟨"ChordGrammars$Slots", "has", "(I)Z"⟩, 4), (⟨"ChordGrammars$Tariff", "ofFit", "(IIII)I"⟩, 1), (⟨"ChordGrammars$Tariff", "ofBass", "(III)I"⟩, 1), (⟨"ChordGrammars$Tariff", "cheapest", "(II)I"⟩, 1), (⟨"ChordGrammars$Chart", "listAll", "(LChordGrammars$Grammar;LChordGrammars$Slots;LChordGrammars$Key;LChordGrammars$Tariff;)V"⟩, 7), (⟨"ChordGrammars$Symbols", "fill", "(LChordGrammars$Slots;LChordGrammars$Key;LChordGrammars$Tariff;)V"⟩, 2), (⟨"ChordGrammars$Key", "rootOf", "(I)I"⟩, 2), (⟨"ChordGrammars$Symbols", "fillDegree", "(LChordGrammars$Slots;IIILChordGrammars$Tariff;)V"⟩, 2), (⟨"ChordGrammars$Chart", "fillSpan", "(II)V"⟩, 7), (⟨"ChordGrammars$Chart", "addWhole", "(III)V"⟩, 7), (⟨"ChordGrammars$Chart", "sizeOf", "(III)I"⟩, 7), (⟨"ChordGrammars$Chart", "chordOf", "(II)I"⟩, 7), (⟨"ChordGrammars$Chart", "countOf", "(III)J"⟩, 7), (⟨"ChordGrammars$Chart", "priceOf", "(IIII)I"⟩, 7), (⟨"ChordGrammars$Chart", "entryAt", "(IIII)J"⟩, 7)]
theorem lw_r2 : ∀ q ∈ lw_privs_2, lw_okq q := List.forall_mem_cons.mpr ⟨lw_p16, List.forall_mem_cons.mpr ⟨lw_p17, List.forall_mem_cons.mpr ⟨lw_p18, List.forall_mem_cons.mpr ⟨lw_p19, List.forall_mem_cons.mpr ⟨lw_p20, List.forall_mem_cons.mpr ⟨lw_p21, List.forall_mem_cons.mpr ⟨lw_p22, List.forall_mem_cons.mpr ⟨lw_p23, List.forall_mem_cons.mpr ⟨lw_p24, List.forall_mem_cons.mpr ⟨lw_p25, List.forall_mem_cons.mpr ⟨lw_p26, List.forall_mem_cons.mpr ⟨lw_p27, List.forall_mem_cons.mpr ⟨lw_p28, List.forall_mem_cons.mpr ⟨lw_p29, List.forall_mem_cons.mpr ⟨lw_p30, List.forall_mem_cons.mpr ⟨lw_p31, fun _ h => absurd h List.not_mem_nil⟩⟩⟩⟩⟩⟩⟩⟩⟩⟩⟩⟩⟩⟩⟩⟩
theorem lw_p32 : lw_okq (⟨"ChordGrammars$Chart", "offer", "(IJ)Z"⟩, 7) := ⟨⟨by decide +kernel, by decide +kernel⟩, List.mem_of_getElem? (i := 165) (by decide +kernel), List.mem_of_getElem? (i := 583) (by decide +kernel), List.mem_of_getElem? (i := 584) (by decide +kernel)⟩
theorem lw_p33 : lw_okq (⟨"ChordGrammars$Chart", "addParts", "(IIII)V"⟩, 7) := ⟨⟨by decide +kernel, by decide +kernel⟩, List.mem_of_getElem? (i := 165) (by decide +kernel), List.mem_of_getElem? (i := 587) (by decide +kernel), List.mem_of_getElem? (i := 588) (by decide +kernel)⟩
theorem lw_p34 : lw_okq (⟨"ChordGrammars$Chart", "listed", "()I"⟩, 7) := ⟨⟨by decide +kernel, by decide +kernel⟩, List.mem_of_getElem? (i := 165) (by decide +kernel), List.mem_of_getElem? (i := 592) (by decide +kernel), List.mem_of_getElem? (i := 593) (by decide +kernel)⟩
theorem lw_p35 : lw_okq (⟨"ChordGrammars$Chart", "wholeRow", "()I"⟩, 7) := ⟨⟨by decide +kernel, by decide +kernel⟩, List.mem_of_getElem? (i := 165) (by decide +kernel), List.mem_of_getElem? (i := 596) (by decide +kernel), List.mem_of_getElem? (i := 597) (by decide +kernel)⟩
theorem lw_p36 : lw_okq (⟨"ChordGrammars$Chart", "countOfAll", "()J"⟩, 7) := ⟨⟨by decide +kernel, by decide +kernel⟩, List.mem_of_getElem? (i := 165) (by decide +kernel), List.mem_of_getElem? (i := 604) (by decide +kernel), List.mem_of_getElem? (i := 605) (by decide +kernel)⟩
theorem lw_p37 : lw_okq (⟨"ChordGrammars", "isListed", "(I)Z"⟩, 8) := ⟨⟨by decide +kernel, by decide +kernel⟩, List.mem_of_getElem? (i := 26) (by decide +kernel), List.mem_of_getElem? (i := 612) (by decide +kernel), List.mem_of_getElem? (i := 613) (by decide +kernel)⟩
theorem lw_p38 : lw_okq (⟨"ChordGrammars$Chart", "priceOfWhole", "(I)I"⟩, 7) := ⟨⟨by decide +kernel, by decide +kernel⟩, List.mem_of_getElem? (i := 165) (by decide +kernel), List.mem_of_getElem? (i := 616) (by decide +kernel), List.mem_of_getElem? (i := 617) (by decide +kernel)⟩
theorem lw_p39 : lw_okq (⟨"ChordGrammars", "treeOf", "(I)LChordGrammars$Tree;"⟩, 8) := ⟨⟨by decide +kernel, by decide +kernel⟩, List.mem_of_getElem? (i := 26) (by decide +kernel), List.mem_of_getElem? (i := 624) (by decide +kernel), List.mem_of_getElem? (i := 625) (by decide +kernel)⟩
theorem lw_p40 : lw_okq (⟨"ChordGrammars$Tree", "walk", "(LChordGrammars$Chart;I)V"⟩, 13) := ⟨⟨by decide +kernel, by decide +kernel⟩, List.mem_of_getElem? (i := 215) (by decide +kernel), List.mem_of_getElem? (i := 628) (by decide +kernel), List.mem_of_getElem? (i := 629) (by decide +kernel)⟩
theorem lw_p41 : lw_okq (⟨"ChordGrammars$Tree", "push", "(IIII)V"⟩, 13) := ⟨⟨by decide +kernel, by decide +kernel⟩, List.mem_of_getElem? (i := 215) (by decide +kernel), List.mem_of_getElem? (i := 632) (by decide +kernel), List.mem_of_getElem? (i := 633) (by decide +kernel)⟩
theorem lw_p42 : lw_okq (⟨"ChordGrammars$Tree", "visit", "(LChordGrammars$Chart;II)V"⟩, 13) := ⟨⟨by decide +kernel, by decide +kernel⟩, List.mem_of_getElem? (i := 215) (by decide +kernel), List.mem_of_getElem? (i := 636) (by decide +kernel), List.mem_of_getElem? (i := 637) (by decide +kernel)⟩
theorem lw_p43 : lw_okq (⟨"ChordGrammars$Tree", "pushParts", "(LChordGrammars$Grammar;JII)V"⟩, 13) := ⟨⟨by decide +kernel, by decide +kernel⟩, List.mem_of_getElem? (i := 215) (by decide +kernel), List.mem_of_getElem? (i := 646) (by decide +kernel), List.mem_of_getElem? (i := 647) (by decide +kernel)⟩
theorem lw_p44 : lw_okq (⟨"ChordGrammars$Chart", "hasSlot", "(I)Z"⟩, 7) := ⟨⟨by decide +kernel, by decide +kernel⟩, List.mem_of_getElem? (i := 165) (by decide +kernel), List.mem_of_getElem? (i := 667) (by decide +kernel), List.mem_of_getElem? (i := 668) (by decide +kernel)⟩
theorem lw_p45 : lw_okq (⟨"ChordGrammars$Tree", "degreeAt", "(I)I"⟩, 13) := ⟨⟨by decide +kernel, by decide +kernel⟩, List.mem_of_getElem? (i := 215) (by decide +kernel), List.mem_of_getElem? (i := 675) (by decide +kernel), List.mem_of_getElem? (i := 676) (by decide +kernel)⟩
theorem lw_p46 : lw_okq (⟨"ChordGrammars$Chart", "pitchAt", "(I)I"⟩, 7) := ⟨⟨by decide +kernel, by decide +kernel⟩, List.mem_of_getElem? (i := 165) (by decide +kernel), List.mem_of_getElem? (i := 686) (by decide +kernel), List.mem_of_getElem? (i := 687) (by decide +kernel)⟩
theorem lw_p47 : lw_okq (⟨"java/lang/Throwable", "fillInStackTrace", "(I)Ljava/lang/Throwable;"⟩, 6) := ⟨⟨by decide +kernel, by decide +kernel⟩, List.mem_of_getElem? (i := 752) (by decide +kernel), List.mem_of_getElem? (i := 750) (by decide +kernel), List.mem_of_getElem? (i := 751) (by decide +kernel)⟩
def lw_privs_3 : List (MethodName × Nat) := [(⟨"ChordGrammars$Chart", "offer", "(IJ)Z"⟩, 7), (⟨"ChordGrammars$Chart", "addParts", "(IIII)V"⟩, 7), (⟨"ChordGrammars$Chart", "listed", "()I"⟩, 7), (⟨"ChordGrammars$Chart", "wholeRow", "()I"⟩, 7), (⟨"ChordGrammars$Chart", "countOfAll", "()J"⟩, 7), (⟨"ChordGrammars", "isListed", "(I)Z"⟩, 8), (⟨"ChordGrammars$Chart", "priceOfWhole", "(I)I"⟩, 7), (⟨"ChordGrammars", "treeOf", "(I)LChordGrammars$Tree;"⟩, 8), (⟨"ChordGrammars$Tree", "walk", "(LChordGrammars$Chart;I)V"⟩, 13), (⟨"ChordGrammars$Tree", "push", "(IIII)V"⟩, 13), (⟨"ChordGrammars$Tree", "visit", "(LChordGrammars$Chart;II)V"⟩, 13), (⟨"ChordGrammars$Tree", "pushParts", "(LChordGrammars$Grammar;JII)V"⟩, 13), (⟨"ChordGrammars$Chart", "hasSlot", "(I)Z"⟩, 7), (⟨"ChordGrammars$Tree", "degreeAt", "(I)I"⟩, 13), (⟨"ChordGrammars$Chart", "pitchAt", "(I)I"⟩, 7), (⟨"java/lang/Throwable", "fillInStackTrace", "(I)Ljava/lang/Throwable;"⟩, 6)]
theorem lw_r3 : ∀ q ∈ lw_privs_3, lw_okq q := List.forall_mem_cons.mpr ⟨lw_p32, List.forall_mem_cons.mpr ⟨lw_p33, List.forall_mem_cons.mpr ⟨lw_p34, List.forall_mem_cons.mpr ⟨lw_p35, List.forall_mem_cons.mpr ⟨lw_p36, List.forall_mem_cons.mpr ⟨lw_p37, List.forall_mem_cons.mpr ⟨lw_p38, List.forall_mem_cons.mpr ⟨lw_p39, List.forall_mem_cons.mpr ⟨lw_p40, List.forall_mem_cons.mpr ⟨lw_p41, List.forall_mem_cons.mpr ⟨lw_p42, List.forall_mem_cons.mpr ⟨lw_p43, List.forall_mem_cons.mpr ⟨lw_p44, List.forall_mem_cons.mpr ⟨lw_p45, List.forall_mem_cons.mpr ⟨lw_p46, List.forall_mem_cons.mpr ⟨lw_p47, fun _ h => absurd h List.not_mem_nil⟩⟩⟩⟩⟩⟩⟩⟩⟩⟩⟩⟩⟩⟩⟩⟩
theorem lw_p48 : lw_okq (⟨"ChordGrammarsModel", "blanks", "()V"⟩, 48) := ⟨⟨by decide +kernel, by decide +kernel⟩, List.mem_of_getElem? (i := 785) (by decide +kernel), List.mem_of_getElem? (i := 959) (by decide +kernel), List.mem_of_getElem? (i := 960) (by decide +kernel)⟩
theorem lw_p49 : lw_okq (⟨"ChordGrammarsModel", "here", "()I"⟩, 48) := ⟨⟨by decide +kernel, by decide +kernel⟩, List.mem_of_getElem? (i := 785) (by decide +kernel), List.mem_of_getElem? (i := 963) (by decide +kernel), List.mem_of_getElem? (i := 964) (by decide +kernel)⟩
theorem lw_p50 : lw_okq (⟨"ChordGrammarsModel", "stop", "(I)V"⟩, 48) := ⟨⟨by decide +kernel, by decide +kernel⟩, List.mem_of_getElem? (i := 785) (by decide +kernel), List.mem_of_getElem? (i := 967) (by decide +kernel), List.mem_of_getElem? (i := 968) (by decide +kernel)⟩
theorem lw_p51 : lw_okq (⟨"ChordGrammarsModel", "rule", "()V"⟩, 48) := ⟨⟨by decide +kernel, by decide +kernel⟩, List.mem_of_getElem? (i := 785) (by decide +kernel), List.mem_of_getElem? (i := 971) (by decide +kernel), List.mem_of_getElem? (i := 972) (by decide +kernel)⟩
theorem lw_p52 : lw_okq (⟨"ChordGrammarsModel", "isItem", "()Z"⟩, 48) := ⟨⟨by decide +kernel, by decide +kernel⟩, List.mem_of_getElem? (i := 785) (by decide +kernel), List.mem_of_getElem? (i := 978) (by decide +kernel), List.mem_of_getElem? (i := 979) (by decide +kernel)⟩
theorem lw_p53 : lw_okq (⟨"ChordGrammarsModel", "item", "()I"⟩, 48) := ⟨⟨by decide +kernel, by decide +kernel⟩, List.mem_of_getElem? (i := 785) (by decide +kernel), List.mem_of_getElem? (i := 985) (by decide +kernel), List.mem_of_getElem? (i := 986) (by decide +kernel)⟩
theorem lw_p54 : lw_okq (⟨"ChordGrammarsModel", "figures", "()I"⟩, 48) := ⟨⟨by decide +kernel, by decide +kernel⟩, List.mem_of_getElem? (i := 785) (by decide +kernel), List.mem_of_getElem? (i := 992) (by decide +kernel), List.mem_of_getElem? (i := 993) (by decide +kernel)⟩
theorem lw_p55 : lw_okq (⟨"ChordGrammarsModel", "findRings", "()V"⟩, 48) := ⟨⟨by decide +kernel, by decide +kernel⟩, List.mem_of_getElem? (i := 785) (by decide +kernel), List.mem_of_getElem? (i := 996) (by decide +kernel), List.mem_of_getElem? (i := 997) (by decide +kernel)⟩
theorem lw_p56 : lw_okq (⟨"ChordGrammarsModel", "isUnary", "(I)Z"⟩, 48) := ⟨⟨by decide +kernel, by decide +kernel⟩, List.mem_of_getElem? (i := 785) (by decide +kernel), List.mem_of_getElem? (i := 1000) (by decide +kernel), List.mem_of_getElem? (i := 1001) (by decide +kernel)⟩
theorem lw_p57 : lw_okq (⟨"ChordGrammarsModel", "fits", "(III)I"⟩, 48) := ⟨⟨by decide +kernel, by decide +kernel⟩, List.mem_of_getElem? (i := 785) (by decide +kernel), List.mem_of_getElem? (i := 1016) (by decide +kernel), List.mem_of_getElem? (i := 1017) (by decide +kernel)⟩
theorem lw_p58 : lw_okq (⟨"ChordGrammarsModel", "readSymbols", "()V"⟩, 48) := ⟨⟨by decide +kernel, by decide +kernel⟩, List.mem_of_getElem? (i := 785) (by decide +kernel), List.mem_of_getElem? (i := 1037) (by decide +kernel), List.mem_of_getElem? (i := 1038) (by decide +kernel)⟩
theorem lw_p59 : lw_okq (⟨"ChordGrammarsModel", "degree", "(I)I"⟩, 48) := ⟨⟨by decide +kernel, by decide +kernel⟩, List.mem_of_getElem? (i := 785) (by decide +kernel), List.mem_of_getElem? (i := 1041) (by decide +kernel), List.mem_of_getElem? (i := 1042) (by decide +kernel)⟩
theorem lw_p60 : lw_okq (⟨"ChordGrammarsModel", "order", "()V"⟩, 48) := ⟨⟨by decide +kernel, by decide +kernel⟩, List.mem_of_getElem? (i := 785) (by decide +kernel), List.mem_of_getElem? (i := 1045) (by decide +kernel), List.mem_of_getElem? (i := 1046) (by decide +kernel)⟩
theorem lw_p61 : lw_okq (⟨"ChordGrammarsModel", "nameAt", "(I)I"⟩, 48) := ⟨⟨by decide +kernel, by decide +kernel⟩, List.mem_of_getElem? (i := 785) (by decide +kernel), List.mem_of_getElem? (i := 1049) (by decide +kernel), List.mem_of_getElem? (i := 1050) (by decide +kernel)⟩
theorem lw_p62 : lw_okq (⟨"ChordGrammarsModel", "one", "(IIII)V"⟩, 48) := ⟨⟨by decide +kernel, by decide +kernel⟩, List.mem_of_getElem? (i := 785) (by decide +kernel), List.mem_of_getElem? (i := 1056) (by decide +kernel), List.mem_of_getElem? (i := 1057) (by decide +kernel)⟩
theorem lw_p63 : lw_okq (⟨"ChordGrammarsModel", "itemSize", "(III)I"⟩, 48) := ⟨⟨by decide +kernel, by decide +kernel⟩, List.mem_of_getElem? (i := 785) (by decide +kernel), List.mem_of_getElem? (i := 1060) (by decide +kernel), List.mem_of_getElem? (i := 1061) (by decide +kernel)⟩
def lw_privs_4 : List (MethodName × Nat) := [(⟨"ChordGrammarsModel", "blanks", "()V"⟩, 48), (⟨"ChordGrammarsModel", "here", "()I"⟩, 48), (⟨"ChordGrammarsModel", "stop", "(I)V"⟩, 48), (⟨"ChordGrammarsModel", "rule", "()V"⟩, 48), (⟨"ChordGrammarsModel", "isItem", "()Z"⟩, 48), (⟨"ChordGrammarsModel", "item", "()I"⟩, 48), (⟨"ChordGrammarsModel", "figures", "()I"⟩, 48), (⟨"ChordGrammarsModel", "findRings", "()V"⟩, 48), (⟨"ChordGrammarsModel", "isUnary", "(I)Z"⟩, 48), (⟨"ChordGrammarsModel", "fits", "(III)I"⟩, 48), (⟨"ChordGrammarsModel", "readSymbols", "()V"⟩, 48), (⟨"ChordGrammarsModel", "degree", "(I)I"⟩, 48), (⟨"ChordGrammarsModel", "order", "()V"⟩, 48), (⟨"ChordGrammarsModel", "nameAt", "(I)I"⟩, 48), (⟨"ChordGrammarsModel", "one", "(IIII)V"⟩, 48), (⟨"ChordGrammarsModel", "itemSize", "(III)I"⟩, 48)]
theorem lw_r4 : ∀ q ∈ lw_privs_4, lw_okq q := List.forall_mem_cons.mpr ⟨lw_p48, List.forall_mem_cons.mpr ⟨lw_p49, List.forall_mem_cons.mpr ⟨lw_p50, List.forall_mem_cons.mpr ⟨lw_p51, List.forall_mem_cons.mpr ⟨lw_p52, List.forall_mem_cons.mpr ⟨lw_p53, List.forall_mem_cons.mpr ⟨lw_p54, List.forall_mem_cons.mpr ⟨lw_p55, List.forall_mem_cons.mpr ⟨lw_p56, List.forall_mem_cons.mpr ⟨lw_p57, List.forall_mem_cons.mpr ⟨lw_p58, List.forall_mem_cons.mpr ⟨lw_p59, List.forall_mem_cons.mpr ⟨lw_p60, List.forall_mem_cons.mpr ⟨lw_p61, List.forall_mem_cons.mpr ⟨lw_p62, List.forall_mem_cons.mpr ⟨lw_p63, fun _ h => absurd h List.not_mem_nil⟩⟩⟩⟩⟩⟩⟩⟩⟩⟩⟩⟩⟩⟩⟩⟩
theorem lw_p64 : lw_okq (⟨"ChordGrammarsModel", "itemCount", "(III)J"⟩, 48) := ⟨⟨by decide +kernel, by decide +kernel⟩, List.mem_of_getElem? (i := 785) (by decide +kernel), List.mem_of_getElem? (i := 1064) (by decide +kernel), List.mem_of_getElem? (i := 1065) (by decide +kernel)⟩
theorem lw_p65 : lw_okq (⟨"ChordGrammarsModel", "itemCost", "(IIII)I"⟩, 48) := ⟨⟨by decide +kernel, by decide +kernel⟩, List.mem_of_getElem? (i := 785) (by decide +kernel), List.mem_of_getElem? (i := 1068) (by decide +kernel), List.mem_of_getElem? (i := 1069) (by decide +kernel)⟩
theorem lw_p66 : lw_okq (⟨"ChordGrammarsModel", "comes", "(III)Z"⟩, 48) := ⟨⟨by decide +kernel, by decide +kernel⟩, List.mem_of_getElem? (i := 785) (by decide +kernel), List.mem_of_getElem? (i := 1072) (by decide +kernel), List.mem_of_getElem? (i := 1073) (by decide +kernel)⟩
theorem lw_p67 : lw_okq (⟨"ChordGrammarsModel", "two", "(IIII)V"⟩, 48) := ⟨⟨by decide +kernel, by decide +kernel⟩, List.mem_of_getElem? (i := 785) (by decide +kernel), List.mem_of_getElem? (i := 1076) (by decide +kernel), List.mem_of_getElem? (i := 1077) (by decide +kernel)⟩
theorem lw_p68 : lw_okq (⟨"ChordGrammarsModel", "listed", "()I"⟩, 48) := ⟨⟨by decide +kernel, by decide +kernel⟩, List.mem_of_getElem? (i := 785) (by decide +kernel), List.mem_of_getElem? (i := 1080) (by decide +kernel), List.mem_of_getElem? (i := 1081) (by decide +kernel)⟩
theorem lw_p69 : lw_okq (⟨"ChordGrammarsModel", "topCell", "()I"⟩, 48) := ⟨⟨by decide +kernel, by decide +kernel⟩, List.mem_of_getElem? (i := 785) (by decide +kernel), List.mem_of_getElem? (i := 1084) (by decide +kernel), List.mem_of_getElem? (i := 1085) (by decide +kernel)⟩
theorem lw_p70 : lw_okq (⟨"ChordGrammarsModel", "noReading", "(I)Z"⟩, 48) := ⟨⟨by decide +kernel, by decide +kernel⟩, List.mem_of_getElem? (i := 785) (by decide +kernel), List.mem_of_getElem? (i := 1096) (by decide +kernel), List.mem_of_getElem? (i := 1097) (by decide +kernel)⟩
theorem lw_p71 : lw_okq (⟨"ChordGrammarsModel", "begin", "(I)V"⟩, 48) := ⟨⟨by decide +kernel, by decide +kernel⟩, List.mem_of_getElem? (i := 785) (by decide +kernel), List.mem_of_getElem? (i := 1104) (by decide +kernel), List.mem_of_getElem? (i := 1105) (by decide +kernel)⟩
theorem lw_p72 : lw_okq (⟨"ChordGrammarsModel", "later", "(IIII)V"⟩, 48) := ⟨⟨by decide +kernel, by decide +kernel⟩, List.mem_of_getElem? (i := 785) (by decide +kernel), List.mem_of_getElem? (i := 1108) (by decide +kernel), List.mem_of_getElem? (i := 1109) (by decide +kernel)⟩
theorem lw_p73 : lw_okq (⟨"ChordGrammarsModel", "next", "()Z"⟩, 48) := ⟨⟨by decide +kernel, by decide +kernel⟩, List.mem_of_getElem? (i := 785) (by decide +kernel), List.mem_of_getElem? (i := 1112) (by decide +kernel), List.mem_of_getElem? (i := 1113) (by decide +kernel)⟩
theorem lw_p74 : lw_okq (⟨"ChordGrammarsModel", "nodeChord", "()I"⟩, 48) := ⟨⟨by decide +kernel, by decide +kernel⟩, List.mem_of_getElem? (i := 785) (by decide +kernel), List.mem_of_getElem? (i := 1116) (by decide +kernel), List.mem_of_getElem? (i := 1117) (by decide +kernel)⟩
theorem lw_p75 : lw_okq (⟨"ChordGrammarsModel", "symbolAt", "(II)I"⟩, 48) := ⟨⟨by decide +kernel, by decide +kernel⟩, List.mem_of_getElem? (i := 785) (by decide +kernel), List.mem_of_getElem? (i := 1128) (by decide +kernel), List.mem_of_getElem? (i := 1129) (by decide +kernel)⟩
def lw_privs_5 : List (MethodName × Nat) := [(⟨"ChordGrammarsModel", "itemCount", "(III)J"⟩, 48), (⟨"ChordGrammarsModel", "itemCost", "(IIII)I"⟩, 48), (⟨"ChordGrammarsModel", "comes", "(III)Z"⟩, 48), (⟨"ChordGrammarsModel", "two", "(IIII)V"⟩, 48), (⟨"ChordGrammarsModel", "listed", "()I"⟩, 48), (⟨"ChordGrammarsModel", "topCell", "()I"⟩, 48), (⟨"ChordGrammarsModel", "noReading", "(I)Z"⟩, 48), (⟨"ChordGrammarsModel", "begin", "(I)V"⟩, 48), (⟨"ChordGrammarsModel", "later", "(IIII)V"⟩, 48), (⟨"ChordGrammarsModel", "next", "()Z"⟩, 48), (⟨"ChordGrammarsModel", "nodeChord", "()I"⟩, 48), (⟨"ChordGrammarsModel", "symbolAt", "(II)I"⟩, 48)]
theorem lw_r5 : ∀ q ∈ lw_privs_5, lw_okq q := List.forall_mem_cons.mpr ⟨lw_p64, List.forall_mem_cons.mpr ⟨lw_p65, List.forall_mem_cons.mpr ⟨lw_p66, List.forall_mem_cons.mpr ⟨lw_p67, List.forall_mem_cons.mpr ⟨lw_p68, List.forall_mem_cons.mpr ⟨lw_p69, List.forall_mem_cons.mpr ⟨lw_p70, List.forall_mem_cons.mpr ⟨lw_p71, List.forall_mem_cons.mpr ⟨lw_p72, List.forall_mem_cons.mpr ⟨lw_p73, List.forall_mem_cons.mpr ⟨lw_p74, List.forall_mem_cons.mpr ⟨lw_p75, fun _ h => absurd h List.not_mem_nil⟩⟩⟩⟩⟩⟩⟩⟩⟩⟩⟩⟩
def lw_privs : List (MethodName × Nat) := lw_privs_1 ++ (lw_privs_2 ++ (lw_privs_3 ++ (lw_privs_4 ++ (lw_privs_5))))
def lw_tbl : List Cond := k2_sels lw_privs ++ tables_1
theorem lw_privs_ok : ∀ q ∈ lw_privs, lw_okq q := by
  show ∀ q ∈ lw_privs_1 ++ (lw_privs_2 ++ (lw_privs_3 ++ (lw_privs_4 ++ (lw_privs_5)))), lw_okq q
  exact List.forall_mem_append.mpr ⟨lw_r1, List.forall_mem_append.mpr ⟨lw_r2, List.forall_mem_append.mpr ⟨lw_r3, List.forall_mem_append.mpr ⟨lw_r4, lw_r5⟩⟩⟩⟩
-- ===== end of PART A; then your names; then what follows =====
end
section
/-! ===== BEGIN words of one list among another's, by their places ===== -/
theorem goodIn_r {big : List Cond} (ws : List Cond) (ps : List Nat) (hp : ws = ps.filterMap (fun i => big[i]?)) (h : ws.all goodWord = true) : GoodIn big ws := by
  intro w hw
  have h1 := List.all_eq_true.mp h w hw
  rw [hp] at hw
  obtain ⟨i, -, hi⟩ := List.mem_filterMap.mp hw
  have hm : w ∈ big := by first | exact List.mem_of_getElem? hi | exact List.getElem?_mem hi
  exact ⟨hm, good_of_word h1⟩
theorem goodIn_app {big a b : List Cond} (ha : GoodIn big a) (hb : GoodIn big b) : GoodIn big (a ++ b) := fun w h => (List.mem_append.mp h).elim (ha w) (hb w)
theorem goodIn_ca {big a b : List Cond} {c : Cond} (ha : GoodIn big (c :: a)) (hb : GoodIn big b) : GoodIn big (c :: (a ++ b)) := fun w h => (List.mem_cons.mp h).elim (fun e => ha w (List.mem_cons.mpr (Or.inl e))) (fun h => (List.mem_append.mp h).elim (fun h => ha w (List.mem_cons.mpr (Or.inr h))) (hb w))
theorem goodIn_sub {big ws : List Cond} (hm : ∀ w ∈ ws, w ∈ big) (h : ws.all goodWord = true) : GoodIn big ws := fun w hw => ⟨hm w hw, good_of_word (List.all_eq_true.mp h w hw)⟩
/-! ===== END ===== -/

/-! ===== BEGIN printed: names, fields, word lists, decode rows ===== -/
def RX0 : String := "ChordGrammars$Chart"
def TX0 : u_T := fun k => match k with
  | 0 => ("ChordGrammars$Chart", "grammar", "LChordGrammars$Grammar;", true)
  | 1 => ("ChordGrammars$Chart", "symbols", "LChordGrammars$Symbols;", true)
  | 2 => ("ChordGrammars$Chart", "pitches", "[I", true)
  | 3 => ("ChordGrammars$Chart", "counts", "[J", true)
  | 4 => ("ChordGrammars$Chart", "sizes", "[I", true)
  | 5 => ("ChordGrammars$Chart", "least", "[J", true)
  | _ => ("ChordGrammars$Chart", "slots", "I", false)
def tyX0 : Nat → FieldType := fun k => match k with
  | 0 => .object "ChordGrammars$Grammar"
  | 1 => .object "ChordGrammars$Symbols"
  | 2 => .array .int
  | 3 => .array .long
  | 4 => .array .int
  | 5 => .array .long
  | _ => .int
abbrev wsX00 : List Cond := u_ws RX0 TX0 7
theorem nmX0 : ∀ a, a < 7 → ∀ b, b < 7 → a ≠ b → (TX0 a).2.1 ≠ (TX0 b).2.1 := by decide +kernel
theorem tyX0_ok : ∀ k, k < 7 → parseFieldDescriptor (TX0 k).2.2.1 = some (tyX0 k) := by decide +kernel
abbrev cX0_init : ByteArray := prog_2_method_1_code
def yX0_init : MethodName := ⟨RX0, "<init>", "()V"⟩
abbrev cX0_listAll : ByteArray := prog_2_method_2_code
def yX0_listAll : MethodName := ⟨RX0, "listAll", "(LChordGrammars$Grammar;LChordGrammars$Slots;LChordGrammars$Key;LChordGrammars$Tariff;)V"⟩
abbrev cX0_fillSpan : ByteArray := prog_2_method_3_code
def yX0_fillSpan : MethodName := ⟨RX0, "fillSpan", "(II)V"⟩
abbrev cX0_addWhole : ByteArray := prog_2_method_4_code
def yX0_addWhole : MethodName := ⟨RX0, "addWhole", "(III)V"⟩
abbrev cX0_addParts : ByteArray := prog_2_method_5_code
def yX0_addParts : MethodName := ⟨RX0, "addParts", "(IIII)V"⟩
abbrev cX0_offer : ByteArray := prog_2_method_6_code
def yX0_offer : MethodName := ⟨RX0, "offer", "(IJ)Z"⟩
abbrev cX0_listed : ByteArray := prog_2_method_7_code
def yX0_listed : MethodName := ⟨RX0, "listed", "()I"⟩
abbrev cX0_countOfAll : ByteArray := prog_2_method_8_code
def yX0_countOfAll : MethodName := ⟨RX0, "countOfAll", "()J"⟩
abbrev cX0_priceOfWhole : ByteArray := prog_2_method_9_code
def yX0_priceOfWhole : MethodName := ⟨RX0, "priceOfWhole", "(I)I"⟩
abbrev cX0_wholeRow : ByteArray := prog_2_method_10_code
def yX0_wholeRow : MethodName := ⟨RX0, "wholeRow", "()I"⟩
abbrev cX0_pitchAt : ByteArray := prog_2_method_11_code
def yX0_pitchAt : MethodName := ⟨RX0, "pitchAt", "(I)I"⟩
abbrev cX0_hasSlot : ByteArray := prog_2_method_12_code
def yX0_hasSlot : MethodName := ⟨RX0, "hasSlot", "(I)Z"⟩
abbrev cX0_sizeOf : ByteArray := prog_2_method_13_code
def yX0_sizeOf : MethodName := ⟨RX0, "sizeOf", "(III)I"⟩
abbrev cX0_countOf : ByteArray := prog_2_method_14_code
def yX0_countOf : MethodName := ⟨RX0, "countOf", "(III)J"⟩
abbrev cX0_priceOf : ByteArray := prog_2_method_15_code
def yX0_priceOf : MethodName := ⟨RX0, "priceOf", "(IIII)I"⟩
abbrev cX0_chordOf : ByteArray := prog_2_method_16_code
def yX0_chordOf : MethodName := ⟨RX0, "chordOf", "(II)I"⟩
abbrev cX0_entryAt : ByteArray := prog_2_method_17_code
def yX0_entryAt : MethodName := ⟨RX0, "entryAt", "(IIII)J"⟩
abbrev cX0_rowOf : ByteArray := prog_2_method_18_code
def yX0_rowOf : MethodName := ⟨RX0, "rowOf", "(III)I"⟩
abbrev cX0_entryOf : ByteArray := prog_2_method_19_code
def yX0_entryOf : MethodName := ⟨RX0, "entryOf", "(IIIII)J"⟩
abbrev cX0_ruleOf : ByteArray := prog_2_method_20_code
def yX0_ruleOf : MethodName := ⟨RX0, "ruleOf", "(J)I"⟩
abbrev cX0_partOf : ByteArray := prog_2_method_21_code
def yX0_partOf : MethodName := ⟨RX0, "partOf", "(J)I"⟩
abbrev cX0_rankOneOf : ByteArray := prog_2_method_22_code
def yX0_rankOneOf : MethodName := ⟨RX0, "rankOneOf", "(J)I"⟩
abbrev cX0_rankTwoOf : ByteArray := prog_2_method_23_code
def yX0_rankTwoOf : MethodName := ⟨RX0, "rankTwoOf", "(J)I"⟩
def RX1 : String := "ChordGrammars$Draft"
def TX1 : u_T := fun k => match k with
  | 0 => ("ChordGrammars$Draft", "octets", "[B", true)
  | _ => ("ChordGrammars$Draft", "size", "I", false)
def tyX1 : Nat → FieldType := fun k => match k with
  | 0 => .array .byte
  | _ => .int
abbrev wsX10 : List Cond := u_ws RX1 TX1 2
theorem nmX1 : ∀ a, a < 2 → ∀ b, b < 2 → a ≠ b → (TX1 a).2.1 ≠ (TX1 b).2.1 := by decide +kernel
theorem tyX1_ok : ∀ k, k < 2 → parseFieldDescriptor (TX1 k).2.2.1 = some (tyX1 k) := by decide +kernel
abbrev cX1_init : ByteArray := prog_3_method_1_code
def yX1_init : MethodName := ⟨RX1, "<init>", "()V"⟩
abbrev cX1_extend : ByteArray := prog_3_method_2_code
def yX1_extend : MethodName := ⟨RX1, "extend", "(IJ)I"⟩
abbrev cX1_octetAt : ByteArray := prog_3_method_3_code
def yX1_octetAt : MethodName := ⟨RX1, "octetAt", "(I)I"⟩
def RX2 : String := "ChordGrammars$Grammar"
def TX2 : u_T := fun k => match k with
  | 0 => ("ChordGrammars$Grammar", "lefts", "[I", true)
  | 1 => ("ChordGrammars$Grammar", "ones", "[I", true)
  | 2 => ("ChordGrammars$Grammar", "twos", "[I", true)
  | 3 => ("ChordGrammars$Grammar", "costs", "[I", true)
  | 4 => ("ChordGrammars$Grammar", "order", "[I", true)
  | _ => ("ChordGrammars$Grammar", "rules", "I", false)
def tyX2 : Nat → FieldType := fun k => match k with
  | 0 => .array .int
  | 1 => .array .int
  | 2 => .array .int
  | 3 => .array .int
  | 4 => .array .int
  | _ => .int
abbrev wsX20 : List Cond := u_ws RX2 TX2 6
theorem nmX2 : ∀ a, a < 6 → ∀ b, b < 6 → a ≠ b → (TX2 a).2.1 ≠ (TX2 b).2.1 := by decide +kernel
theorem tyX2_ok : ∀ k, k < 6 → parseFieldDescriptor (TX2 k).2.2.1 = some (tyX2 k) := by decide +kernel
abbrev cX2_init : ByteArray := prog_4_method_1_code
def yX2_init : MethodName := ⟨RX2, "<init>", "()V"⟩
abbrev cX2_become : ByteArray := prog_4_method_2_code
def yX2_become : MethodName := ⟨RX2, "become", "(LChordGrammars$Grammar;)V"⟩
abbrev cX2_renames : ByteArray := prog_4_method_3_code
def yX2_renames : MethodName := ⟨RX2, "renames", "(I)Z"⟩
def RX3 : String := "ChordGrammars$Key"
def TX3 : u_T := fun k => match k with
  | 0 => ("ChordGrammars$Key", "tonic", "I", false)
  | _ => ("ChordGrammars$Key", "isMinor", "Z", false)
def tyX3 : Nat → FieldType := fun k => match k with
  | 0 => .int
  | _ => .boolean
abbrev wsX30 : List Cond := u_ws RX3 TX3 2
theorem nmX3 : ∀ a, a < 2 → ∀ b, b < 2 → a ≠ b → (TX3 a).2.1 ≠ (TX3 b).2.1 := by decide +kernel
theorem tyX3_ok : ∀ k, k < 2 → parseFieldDescriptor (TX3 k).2.2.1 = some (tyX3 k) := by decide +kernel
abbrev cX3_init : ByteArray := prog_5_method_1_code
def yX3_init : MethodName := ⟨RX3, "<init>", "()V"⟩
abbrev cX3_change : ByteArray := prog_5_method_2_code
def yX3_change : MethodName := ⟨RX3, "change", "(IZ)Z"⟩
abbrev cX3_rootOf : ByteArray := prog_5_method_3_code
def yX3_rootOf : MethodName := ⟨RX3, "rootOf", "(I)I"⟩
def RX4 : String := "ChordGrammars$Reader"
def TX4 : u_T := fun k => match k with
  | 0 => ("ChordGrammars$Reader", "found", "LChordGrammars$Grammar;", true)
  | 1 => ("ChordGrammars$Reader", "leftPlaces", "[I", true)
  | 2 => ("ChordGrammars$Reader", "reach", "[I", true)
  | _ => ("ChordGrammars$Reader", "place", "I", false)
def tyX4 : Nat → FieldType := fun k => match k with
  | 0 => .object "ChordGrammars$Grammar"
  | 1 => .array .int
  | 2 => .array .int
  | _ => .int
abbrev wsX40 : List Cond := u_ws RX4 TX4 4
theorem nmX4 : ∀ a, a < 4 → ∀ b, b < 4 → a ≠ b → (TX4 a).2.1 ≠ (TX4 b).2.1 := by decide +kernel
theorem tyX4_ok : ∀ k, k < 4 → parseFieldDescriptor (TX4 k).2.2.1 = some (tyX4 k) := by decide +kernel
abbrev cX4_init : ByteArray := prog_6_method_1_code
def yX4_init : MethodName := ⟨RX4, "<init>", "()V"⟩
abbrev cX4_readAll : ByteArray := prog_6_method_2_code
def yX4_readAll : MethodName := ⟨RX4, "readAll", "(LChordGrammars$Draft;)I"⟩
abbrev cX4_readRule : ByteArray := prog_6_method_3_code
def yX4_readRule : MethodName := ⟨RX4, "readRule", "(LChordGrammars$Draft;)Z"⟩
abbrev cX4_readItem : ByteArray := prog_6_method_4_code
def yX4_readItem : MethodName := ⟨RX4, "readItem", "(LChordGrammars$Draft;)I"⟩
abbrev cX4_readCost : ByteArray := prog_6_method_5_code
def yX4_readCost : MethodName := ⟨RX4, "readCost", "(LChordGrammars$Draft;)I"⟩
abbrev cX4_takes : ByteArray := prog_6_method_6_code
def yX4_takes : MethodName := ⟨RX4, "takes", "(LChordGrammars$Draft;I)Z"⟩
abbrev cX4_nextOctet : ByteArray := prog_6_method_7_code
def yX4_nextOctet : MethodName := ⟨RX4, "nextOctet", "(LChordGrammars$Draft;)I"⟩
abbrev cX4_isName : ByteArray := prog_6_method_8_code
def yX4_isName : MethodName := ⟨RX4, "isName", "(I)Z"⟩
abbrev cX4_isFigure : ByteArray := prog_6_method_9_code
def yX4_isFigure : MethodName := ⟨RX4, "isFigure", "(I)Z"⟩
abbrev cX4_kindOf : ByteArray := prog_6_method_10_code
def yX4_kindOf : MethodName := ⟨RX4, "kindOf", "(I)I"⟩
abbrev cX4_findReach : ByteArray := prog_6_method_11_code
def yX4_findReach : MethodName := ⟨RX4, "findReach", "()V"⟩
abbrev cX4_reaches : ByteArray := prog_6_method_12_code
def yX4_reaches : MethodName := ⟨RX4, "reaches", "(II)Z"⟩
abbrev cX4_ringPlace : ByteArray := prog_6_method_13_code
def yX4_ringPlace : MethodName := ⟨RX4, "ringPlace", "()I"⟩
abbrev cX4_arrange : ByteArray := prog_6_method_14_code
def yX4_arrange : MethodName := ⟨RX4, "arrange", "()V"⟩
def RX5 : String := "ChordGrammars$Slots"
def TX5 : u_T := fun k => match k with
  | 0 => ("ChordGrammars$Slots", "sets", "[I", true)
  | 1 => ("ChordGrammars$Slots", "basses", "[I", true)
  | 2 => ("ChordGrammars$Slots", "pitches", "[I", true)
  | _ => ("ChordGrammars$Slots", "count", "I", false)
def tyX5 : Nat → FieldType := fun k => match k with
  | 0 => .array .int
  | 1 => .array .int
  | 2 => .array .int
  | _ => .int
abbrev wsX50 : List Cond := u_ws RX5 TX5 4
theorem nmX5 : ∀ a, a < 4 → ∀ b, b < 4 → a ≠ b → (TX5 a).2.1 ≠ (TX5 b).2.1 := by decide +kernel
theorem tyX5_ok : ∀ k, k < 4 → parseFieldDescriptor (TX5 k).2.2.1 = some (tyX5 k) := by decide +kernel
abbrev cX5_init : ByteArray := prog_7_method_1_code
def yX5_init : MethodName := ⟨RX5, "<init>", "()V"⟩
abbrev cX5_has : ByteArray := prog_7_method_2_code
def yX5_has : MethodName := ⟨RX5, "has", "(I)Z"⟩
abbrev cX5_add : ByteArray := prog_7_method_3_code
def yX5_add : MethodName := ⟨RX5, "add", "(III)I"⟩
def RX6 : String := "ChordGrammars$Symbols"
def TX6 : u_T := fun k => match k with
  | 0 => ("ChordGrammars$Symbols", "chords", "[I", true)
  | _ => ("ChordGrammars$Symbols", "prices", "[I", true)
def tyX6 : Nat → FieldType := fun k => match k with
  | 0 => .array .int
  | _ => .array .int
abbrev wsX60 : List Cond := u_ws RX6 TX6 2
theorem nmX6 : ∀ a, a < 2 → ∀ b, b < 2 → a ≠ b → (TX6 a).2.1 ≠ (TX6 b).2.1 := by decide +kernel
theorem tyX6_ok : ∀ k, k < 2 → parseFieldDescriptor (TX6 k).2.2.1 = some (tyX6 k) := by decide +kernel
abbrev cX6_init : ByteArray := prog_8_method_1_code
def yX6_init : MethodName := ⟨RX6, "<init>", "()V"⟩
abbrev cX6_fill : ByteArray := prog_8_method_2_code
def yX6_fill : MethodName := ⟨RX6, "fill", "(LChordGrammars$Slots;LChordGrammars$Key;LChordGrammars$Tariff;)V"⟩
abbrev cX6_fillDegree : ByteArray := prog_8_method_3_code
def yX6_fillDegree : MethodName := ⟨RX6, "fillDegree", "(LChordGrammars$Slots;IIILChordGrammars$Tariff;)V"⟩
def RX7 : String := "ChordGrammars$Tariff"
def TX7 : u_T := fun k => match k with
  | _ => ("ChordGrammars$Tariff", "costs", "[I", true)
def tyX7 : Nat → FieldType := fun k => match k with
  | _ => .array .int
abbrev wsX70 : List Cond := u_ws RX7 TX7 1
theorem nmX7 : ∀ a, a < 1 → ∀ b, b < 1 → a ≠ b → (TX7 a).2.1 ≠ (TX7 b).2.1 := by decide +kernel
theorem tyX7_ok : ∀ k, k < 1 → parseFieldDescriptor (TX7 k).2.2.1 = some (tyX7 k) := by decide +kernel
abbrev cX7_init : ByteArray := prog_9_method_1_code
def yX7_init : MethodName := ⟨RX7, "<init>", "()V"⟩
abbrev cX7_change : ByteArray := prog_9_method_2_code
def yX7_change : MethodName := ⟨RX7, "change", "(II)Z"⟩
abbrev cX7_ofFit : ByteArray := prog_9_method_3_code
def yX7_ofFit : MethodName := ⟨RX7, "ofFit", "(IIII)I"⟩
abbrev cX7_ofBass : ByteArray := prog_9_method_4_code
def yX7_ofBass : MethodName := ⟨RX7, "ofBass", "(III)I"⟩
abbrev cX7_cheapest : ByteArray := prog_9_method_5_code
def yX7_cheapest : MethodName := ⟨RX7, "cheapest", "(II)I"⟩
def RX8 : String := "ChordGrammars$Tree"
def TX8 : u_T := fun k => match k with
  | 0 => ("ChordGrammars$Tree", "reading", "I", false)
  | 1 => ("ChordGrammars$Tree", "count", "I", false)
  | 2 => ("ChordGrammars$Tree", "rules", "[I", true)
  | 3 => ("ChordGrammars$Tree", "firsts", "[I", true)
  | 4 => ("ChordGrammars$Tree", "lasts", "[I", true)
  | 5 => ("ChordGrammars$Tree", "chords", "[I", true)
  | 6 => ("ChordGrammars$Tree", "slotChords", "[I", true)
  | 7 => ("ChordGrammars$Tree", "slotDegrees", "[I", true)
  | 8 => ("ChordGrammars$Tree", "waitingItems", "[I", true)
  | 9 => ("ChordGrammars$Tree", "waitingFirsts", "[I", true)
  | 10 => ("ChordGrammars$Tree", "waitingLasts", "[I", true)
  | 11 => ("ChordGrammars$Tree", "waitingRanks", "[I", true)
  | _ => ("ChordGrammars$Tree", "waiting", "I", false)
def tyX8 : Nat → FieldType := fun k => match k with
  | 0 => .int
  | 1 => .int
  | 2 => .array .int
  | 3 => .array .int
  | 4 => .array .int
  | 5 => .array .int
  | 6 => .array .int
  | 7 => .array .int
  | 8 => .array .int
  | 9 => .array .int
  | 10 => .array .int
  | 11 => .array .int
  | _ => .int
abbrev wsX80 : List Cond := u_ws RX8 TX8 13
theorem nmX8 : ∀ a, a < 13 → ∀ b, b < 13 → a ≠ b → (TX8 a).2.1 ≠ (TX8 b).2.1 := by decide +kernel
theorem tyX8_ok : ∀ k, k < 13 → parseFieldDescriptor (TX8 k).2.2.1 = some (tyX8 k) := by decide +kernel
abbrev cX8_init : ByteArray := prog_10_method_1_code
def yX8_init : MethodName := ⟨RX8, "<init>", "()V"⟩
abbrev cX8_walk : ByteArray := prog_10_method_2_code
def yX8_walk : MethodName := ⟨RX8, "walk", "(LChordGrammars$Chart;I)V"⟩
abbrev cX8_visit : ByteArray := prog_10_method_3_code
def yX8_visit : MethodName := ⟨RX8, "visit", "(LChordGrammars$Chart;II)V"⟩
abbrev cX8_pushParts : ByteArray := prog_10_method_4_code
def yX8_pushParts : MethodName := ⟨RX8, "pushParts", "(LChordGrammars$Grammar;JII)V"⟩
abbrev cX8_push : ByteArray := prog_10_method_5_code
def yX8_push : MethodName := ⟨RX8, "push", "(IIII)V"⟩
abbrev cX8_degreeAt : ByteArray := prog_10_method_6_code
def yX8_degreeAt : MethodName := ⟨RX8, "degreeAt", "(I)I"⟩
def RX9 : String := "ChordGrammars"
def TX9 : u_T := fun k => match k with
  | 0 => ("ChordGrammars", "key", "LChordGrammars$Key;", true)
  | 1 => ("ChordGrammars", "tariff", "LChordGrammars$Tariff;", true)
  | 2 => ("ChordGrammars", "slots", "LChordGrammars$Slots;", true)
  | 3 => ("ChordGrammars", "draft", "LChordGrammars$Draft;", true)
  | 4 => ("ChordGrammars", "grammar", "LChordGrammars$Grammar;", true)
  | 5 => ("ChordGrammars", "reader", "LChordGrammars$Reader;", true)
  | 6 => ("ChordGrammars", "chart", "LChordGrammars$Chart;", true)
  | _ => ("ChordGrammars", "tree", "LChordGrammars$Tree;", true)
def tyX9 : Nat → FieldType := fun k => match k with
  | 0 => .object "ChordGrammars$Key"
  | 1 => .object "ChordGrammars$Tariff"
  | 2 => .object "ChordGrammars$Slots"
  | 3 => .object "ChordGrammars$Draft"
  | 4 => .object "ChordGrammars$Grammar"
  | 5 => .object "ChordGrammars$Reader"
  | 6 => .object "ChordGrammars$Chart"
  | _ => .object "ChordGrammars$Tree"
abbrev wsX90 : List Cond := u_ws RX9 TX9 8
theorem nmX9 : ∀ a, a < 8 → ∀ b, b < 8 → a ≠ b → (TX9 a).2.1 ≠ (TX9 b).2.1 := by decide +kernel
theorem tyX9_ok : ∀ k, k < 8 → parseFieldDescriptor (TX9 k).2.2.1 = some (tyX9 k) := by decide +kernel
abbrev cX9_init : ByteArray := prog_1_method_1_code
def yX9_init : MethodName := ⟨RX9, "<init>", "()V"⟩
abbrev cX9_key : ByteArray := prog_1_method_2_code
def yX9_key : MethodName := ⟨RX9, "key", "(IZ)Z"⟩
abbrev cX9_cost : ByteArray := prog_1_method_3_code
def yX9_cost : MethodName := ⟨RX9, "cost", "(II)Z"⟩
abbrev cX9_draft : ByteArray := prog_1_method_4_code
def yX9_draft : MethodName := ⟨RX9, "draft", "(IJ)I"⟩
abbrev cX9_grammar : ByteArray := prog_1_method_5_code
def yX9_grammar : MethodName := ⟨RX9, "grammar", "()I"⟩
abbrev cX9_slot : ByteArray := prog_1_method_6_code
def yX9_slot : MethodName := ⟨RX9, "slot", "(III)I"⟩
abbrev cX9_clear : ByteArray := prog_1_method_7_code
def yX9_clear : MethodName := ⟨RX9, "clear", "()I"⟩
abbrev cX9_fit : ByteArray := prog_1_method_8_code
def yX9_fit : MethodName := ⟨RX9, "fit", "(III)I"⟩
abbrev cX9_best : ByteArray := prog_1_method_9_code
def yX9_best : MethodName := ⟨RX9, "best", "(I)I"⟩
abbrev cX9_parse : ByteArray := prog_1_method_10_code
def yX9_parse : MethodName := ⟨RX9, "parse", "()I"⟩
abbrev cX9_readings : ByteArray := prog_1_method_11_code
def yX9_readings : MethodName := ⟨RX9, "readings", "()J"⟩
abbrev cX9_price : ByteArray := prog_1_method_12_code
def yX9_price : MethodName := ⟨RX9, "price", "(I)I"⟩
abbrev cX9_node : ByteArray := prog_1_method_13_code
def yX9_node : MethodName := ⟨RX9, "node", "(III)I"⟩
abbrev cX9_nodes : ByteArray := prog_1_method_14_code
def yX9_nodes : MethodName := ⟨RX9, "nodes", "(I)I"⟩
abbrev cX9_chord : ByteArray := prog_1_method_15_code
def yX9_chord : MethodName := ⟨RX9, "chord", "(II)I"⟩
abbrev cX9_cadence : ByteArray := prog_1_method_16_code
def yX9_cadence : MethodName := ⟨RX9, "cadence", "(I)I"⟩
abbrev cX9_melody : ByteArray := prog_1_method_17_code
def yX9_melody : MethodName := ⟨RX9, "melody", "(II)I"⟩
abbrev cX9_cell : ByteArray := prog_1_method_18_code
def yX9_cell : MethodName := ⟨RX9, "cell", "(III)J"⟩
abbrev cX9_told : ByteArray := prog_1_method_19_code
def yX9_told : MethodName := ⟨RX9, "told", "(I)I"⟩
abbrev cX9_isListed : ByteArray := prog_1_method_20_code
def yX9_isListed : MethodName := ⟨RX9, "isListed", "(I)Z"⟩
abbrev cX9_treeOf : ByteArray := prog_1_method_21_code
def yX9_treeOf : MethodName := ⟨RX9, "treeOf", "(I)LChordGrammars$Tree;"⟩
abbrev cX9_chordSet : ByteArray := prog_1_method_22_code
def yX9_chordSet : MethodName := ⟨RX9, "chordSet", "(II)I"⟩
abbrev cX9_ending : ByteArray := prog_1_method_23_code
def yX9_ending : MethodName := ⟨RX9, "ending", "(II)I"⟩
abbrev cX9_strangerNote : ByteArray := prog_1_method_24_code
def yX9_strangerNote : MethodName := ⟨RX9, "strangerNote", "(III)I"⟩
abbrev cX9_isStep : ByteArray := prog_1_method_25_code
def yX9_isStep : MethodName := ⟨RX9, "isStep", "(I)Z"⟩
abbrev cX9_isLeap : ByteArray := prog_1_method_26_code
def yX9_isLeap : MethodName := ⟨RX9, "isLeap", "(I)Z"⟩
def RX10 : String := "ChordGrammarsModel"
def TX10 : u_T := fun k => match k with
  | 0 => ("ChordGrammarsModel", "thrown", "I", false)
  | 1 => ("ChordGrammarsModel", "tonic", "I", false)
  | 2 => ("ChordGrammarsModel", "minor", "Z", false)
  | 3 => ("ChordGrammarsModel", "costs", "[I", true)
  | 4 => ("ChordGrammarsModel", "draft", "[I", true)
  | 5 => ("ChordGrammarsModel", "drafted", "I", false)
  | 6 => ("ChordGrammarsModel", "slots", "I", false)
  | 7 => ("ChordGrammarsModel", "sets", "[I", true)
  | 8 => ("ChordGrammarsModel", "basses", "[I", true)
  | 9 => ("ChordGrammarsModel", "melodies", "[I", true)
  | 10 => ("ChordGrammarsModel", "rules", "I", false)
  | 11 => ("ChordGrammarsModel", "left", "[I", true)
  | 12 => ("ChordGrammarsModel", "first", "[I", true)
  | 13 => ("ChordGrammarsModel", "second", "[I", true)
  | 14 => ("ChordGrammarsModel", "ruleCost", "[I", true)
  | 15 => ("ChordGrammarsModel", "newRules", "I", false)
  | 16 => ("ChordGrammarsModel", "newLeft", "[I", true)
  | 17 => ("ChordGrammarsModel", "newFirst", "[I", true)
  | 18 => ("ChordGrammarsModel", "newSecond", "[I", true)
  | 19 => ("ChordGrammarsModel", "newCost", "[I", true)
  | 20 => ("ChordGrammarsModel", "newPlace", "[I", true)
  | 21 => ("ChordGrammarsModel", "place", "I", false)
  | 22 => ("ChordGrammarsModel", "fault", "I", false)
  | 23 => ("ChordGrammarsModel", "leads", "[Z", true)
  | 24 => ("ChordGrammarsModel", "n", "I", false)
  | 25 => ("ChordGrammarsModel", "parsedRules", "I", false)
  | 26 => ("ChordGrammarsModel", "pLeft", "[I", true)
  | 27 => ("ChordGrammarsModel", "pFirst", "[I", true)
  | 28 => ("ChordGrammarsModel", "pSecond", "[I", true)
  | 29 => ("ChordGrammarsModel", "pCost", "[I", true)
  | 30 => ("ChordGrammarsModel", "pMelody", "[I", true)
  | 31 => ("ChordGrammarsModel", "symbolChord", "[I", true)
  | 32 => ("ChordGrammarsModel", "symbolCost", "[I", true)
  | 33 => ("ChordGrammarsModel", "sizes", "[I", true)
  | 34 => ("ChordGrammarsModel", "counts", "[J", true)
  | 35 => ("ChordGrammarsModel", "listCost", "[I", true)
  | 36 => ("ChordGrammarsModel", "listKey", "[I", true)
  | 37 => ("ChordGrammarsModel", "turn", "[I", true)
  | 38 => ("ChordGrammarsModel", "parsed", "Z", false)
  | 39 => ("ChordGrammarsModel", "toItem", "[I", true)
  | 40 => ("ChordGrammarsModel", "toFrom", "[I", true)
  | 41 => ("ChordGrammarsModel", "toLast", "[I", true)
  | 42 => ("ChordGrammarsModel", "toRank", "[I", true)
  | 43 => ("ChordGrammarsModel", "waiting", "I", false)
  | 44 => ("ChordGrammarsModel", "nodeItem", "I", false)
  | 45 => ("ChordGrammarsModel", "nodeFrom", "I", false)
  | 46 => ("ChordGrammarsModel", "nodeLast", "I", false)
  | _ => ("ChordGrammarsModel", "nodeRule", "I", false)
def tyX10 : Nat → FieldType := fun k => match k with
  | 0 => .int
  | 1 => .int
  | 2 => .boolean
  | 3 => .array .int
  | 4 => .array .int
  | 5 => .int
  | 6 => .int
  | 7 => .array .int
  | 8 => .array .int
  | 9 => .array .int
  | 10 => .int
  | 11 => .array .int
  | 12 => .array .int
  | 13 => .array .int
  | 14 => .array .int
  | 15 => .int
  | 16 => .array .int
  | 17 => .array .int
  | 18 => .array .int
  | 19 => .array .int
  | 20 => .array .int
  | 21 => .int
  | 22 => .int
  | 23 => .array .boolean
  | 24 => .int
  | 25 => .int
  | 26 => .array .int
  | 27 => .array .int
  | 28 => .array .int
  | 29 => .array .int
  | 30 => .array .int
  | 31 => .array .int
  | 32 => .array .int
  | 33 => .array .int
  | 34 => .array .long
  | 35 => .array .int
  | 36 => .array .int
  | 37 => .array .int
  | 38 => .boolean
  | 39 => .array .int
  | 40 => .array .int
  | 41 => .array .int
  | 42 => .array .int
  | 43 => .int
  | 44 => .int
  | 45 => .int
  | 46 => .int
  | _ => .int
abbrev wsX100 : List Cond := u_ws RX10 TX10 48
theorem nmX10 : ∀ a, a < 48 → ∀ b, b < 48 → a ≠ b → (TX10 a).2.1 ≠ (TX10 b).2.1 := by decide +kernel
theorem tyX10_ok : ∀ k, k < 48 → parseFieldDescriptor (TX10 k).2.2.1 = some (tyX10 k) := by decide +kernel
abbrev cX10_init : ByteArray := prog_12_method_1_code
def yX10_init : MethodName := ⟨RX10, "<init>", "()V"⟩
abbrev cX10_thrown : ByteArray := prog_12_method_2_code
def yX10_thrown : MethodName := ⟨RX10, "thrown", "()I"⟩
abbrev cX10_key : ByteArray := prog_12_method_3_code
def yX10_key : MethodName := ⟨RX10, "key", "(IZ)Z"⟩
abbrev cX10_cost : ByteArray := prog_12_method_4_code
def yX10_cost : MethodName := ⟨RX10, "cost", "(II)Z"⟩
abbrev cX10_draft : ByteArray := prog_12_method_5_code
def yX10_draft : MethodName := ⟨RX10, "draft", "(IJ)I"⟩
abbrev cX10_here : ByteArray := prog_12_method_6_code
def yX10_here : MethodName := ⟨RX10, "here", "()I"⟩
abbrev cX10_blanks : ByteArray := prog_12_method_7_code
def yX10_blanks : MethodName := ⟨RX10, "blanks", "()V"⟩
abbrev cX10_stop : ByteArray := prog_12_method_8_code
def yX10_stop : MethodName := ⟨RX10, "stop", "(I)V"⟩
abbrev cX10_isName : ByteArray := prog_12_method_9_code
def yX10_isName : MethodName := ⟨RX10, "isName", "(I)Z"⟩
abbrev cX10_isDegree : ByteArray := prog_12_method_10_code
def yX10_isDegree : MethodName := ⟨RX10, "isDegree", "(I)Z"⟩
abbrev cX10_kindOf : ByteArray := prog_12_method_11_code
def yX10_kindOf : MethodName := ⟨RX10, "kindOf", "(I)I"⟩
abbrev cX10_item : ByteArray := prog_12_method_12_code
def yX10_item : MethodName := ⟨RX10, "item", "()I"⟩
abbrev cX10_isItem : ByteArray := prog_12_method_13_code
def yX10_isItem : MethodName := ⟨RX10, "isItem", "()Z"⟩
abbrev cX10_figures : ByteArray := prog_12_method_14_code
def yX10_figures : MethodName := ⟨RX10, "figures", "()I"⟩
abbrev cX10_rule : ByteArray := prog_12_method_15_code
def yX10_rule : MethodName := ⟨RX10, "rule", "()V"⟩
abbrev cX10_isUnary : ByteArray := prog_12_method_16_code
def yX10_isUnary : MethodName := ⟨RX10, "isUnary", "(I)Z"⟩
abbrev cX10_findRings : ByteArray := prog_12_method_17_code
def yX10_findRings : MethodName := ⟨RX10, "findRings", "()V"⟩
abbrev cX10_grammar : ByteArray := prog_12_method_18_code
def yX10_grammar : MethodName := ⟨RX10, "grammar", "()I"⟩
abbrev cX10_slot : ByteArray := prog_12_method_19_code
def yX10_slot : MethodName := ⟨RX10, "slot", "(III)I"⟩
abbrev cX10_clear : ByteArray := prog_12_method_20_code
def yX10_clear : MethodName := ⟨RX10, "clear", "()I"⟩
abbrev cX10_shape : ByteArray := prog_12_method_21_code
def yX10_shape : MethodName := ⟨RX10, "shape", "(I)I"⟩
abbrev cX10_classes : ByteArray := prog_12_method_22_code
def yX10_classes : MethodName := ⟨RX10, "classes", "(II)I"⟩
abbrev cX10_many : ByteArray := prog_12_method_23_code
def yX10_many : MethodName := ⟨RX10, "many", "(I)I"⟩
abbrev cX10_fits : ByteArray := prog_12_method_24_code
def yX10_fits : MethodName := ⟨RX10, "fits", "(III)I"⟩
abbrev cX10_fit : ByteArray := prog_12_method_25_code
def yX10_fit : MethodName := ⟨RX10, "fit", "(III)I"⟩
abbrev cX10_best : ByteArray := prog_12_method_26_code
def yX10_best : MethodName := ⟨RX10, "best", "(I)I"⟩
abbrev cX10_degree : ByteArray := prog_12_method_27_code
def yX10_degree : MethodName := ⟨RX10, "degree", "(I)I"⟩
abbrev cX10_readSymbols : ByteArray := prog_12_method_28_code
def yX10_readSymbols : MethodName := ⟨RX10, "readSymbols", "()V"⟩
abbrev cX10_cellOf : ByteArray := prog_12_method_29_code
def yX10_cellOf : MethodName := ⟨RX10, "cellOf", "(III)I"⟩
abbrev cX10_itemSize : ByteArray := prog_12_method_30_code
def yX10_itemSize : MethodName := ⟨RX10, "itemSize", "(III)I"⟩
abbrev cX10_itemCount : ByteArray := prog_12_method_31_code
def yX10_itemCount : MethodName := ⟨RX10, "itemCount", "(III)J"⟩
abbrev cX10_itemCost : ByteArray := prog_12_method_32_code
def yX10_itemCost : MethodName := ⟨RX10, "itemCost", "(IIII)I"⟩
abbrev cX10_comes : ByteArray := prog_12_method_33_code
def yX10_comes : MethodName := ⟨RX10, "comes", "(III)Z"⟩
abbrev cX10_one : ByteArray := prog_12_method_34_code
def yX10_one : MethodName := ⟨RX10, "one", "(IIII)V"⟩
abbrev cX10_two : ByteArray := prog_12_method_35_code
def yX10_two : MethodName := ⟨RX10, "two", "(IIII)V"⟩
abbrev cX10_order : ByteArray := prog_12_method_36_code
def yX10_order : MethodName := ⟨RX10, "order", "()V"⟩
abbrev cX10_nameAt : ByteArray := prog_12_method_37_code
def yX10_nameAt : MethodName := ⟨RX10, "nameAt", "(I)I"⟩
abbrev cX10_parse : ByteArray := prog_12_method_38_code
def yX10_parse : MethodName := ⟨RX10, "parse", "()I"⟩
abbrev cX10_topCell : ByteArray := prog_12_method_39_code
def yX10_topCell : MethodName := ⟨RX10, "topCell", "()I"⟩
abbrev cX10_listed : ByteArray := prog_12_method_40_code
def yX10_listed : MethodName := ⟨RX10, "listed", "()I"⟩
abbrev cX10_noReading : ByteArray := prog_12_method_41_code
def yX10_noReading : MethodName := ⟨RX10, "noReading", "(I)Z"⟩
abbrev cX10_readings : ByteArray := prog_12_method_42_code
def yX10_readings : MethodName := ⟨RX10, "readings", "()J"⟩
abbrev cX10_price : ByteArray := prog_12_method_43_code
def yX10_price : MethodName := ⟨RX10, "price", "(I)I"⟩
abbrev cX10_later : ByteArray := prog_12_method_44_code
def yX10_later : MethodName := ⟨RX10, "later", "(IIII)V"⟩
abbrev cX10_begin : ByteArray := prog_12_method_45_code
def yX10_begin : MethodName := ⟨RX10, "begin", "(I)V"⟩
abbrev cX10_next : ByteArray := prog_12_method_46_code
def yX10_next : MethodName := ⟨RX10, "next", "()Z"⟩
abbrev cX10_nodeChord : ByteArray := prog_12_method_47_code
def yX10_nodeChord : MethodName := ⟨RX10, "nodeChord", "()I"⟩
abbrev cX10_node : ByteArray := prog_12_method_48_code
def yX10_node : MethodName := ⟨RX10, "node", "(III)I"⟩
abbrev cX10_nodes : ByteArray := prog_12_method_49_code
def yX10_nodes : MethodName := ⟨RX10, "nodes", "(I)I"⟩
abbrev cX10_symbolAt : ByteArray := prog_12_method_50_code
def yX10_symbolAt : MethodName := ⟨RX10, "symbolAt", "(II)I"⟩
abbrev cX10_chord : ByteArray := prog_12_method_51_code
def yX10_chord : MethodName := ⟨RX10, "chord", "(II)I"⟩
abbrev cX10_cadence : ByteArray := prog_12_method_52_code
def yX10_cadence : MethodName := ⟨RX10, "cadence", "(I)I"⟩
abbrev cX10_isStep : ByteArray := prog_12_method_53_code
def yX10_isStep : MethodName := ⟨RX10, "isStep", "(I)Z"⟩
abbrev cX10_isMore : ByteArray := prog_12_method_54_code
def yX10_isMore : MethodName := ⟨RX10, "isMore", "(I)Z"⟩
abbrev cX10_isTurned : ByteArray := prog_12_method_55_code
def yX10_isTurned : MethodName := ⟨RX10, "isTurned", "(II)Z"⟩
abbrev cX10_melody : ByteArray := prog_12_method_56_code
def yX10_melody : MethodName := ⟨RX10, "melody", "(II)I"⟩
abbrev cX10_cell : ByteArray := prog_12_method_57_code
def yX10_cell : MethodName := ⟨RX10, "cell", "(III)J"⟩
abbrev cX10_told : ByteArray := prog_12_method_58_code
def yX10_told : MethodName := ⟨RX10, "told", "(I)I"⟩
def RJx00060 : String := "java/lang/ArrayIndexOutOfBoundsException"
def TJx00060 : u_T := fun k => match k with
  | 0 => ("java/lang/Throwable", "cause", "Ljava/lang/Throwable;", false)
  | 1 => ("java/lang/Throwable", "stackTrace", "[Ljava/lang/StackTraceElement;", false)
  | 2 => ("java/lang/Throwable", "suppressedExceptions", "Ljava/util/List;", false)
  | 3 => ("java/lang/Throwable", "detailMessage", "Ljava/lang/String;", false)
  | 4 => ("java/lang/Throwable", "backtrace", "Ljava/lang/Object;", false)
  | _ => ("java/lang/Throwable", "depth", "I", false)
def tyJx00060 : Nat → FieldType := fun k => match k with
  | 0 => .object "java/lang/Throwable"
  | 1 => .array (.object "java/lang/StackTraceElement")
  | 2 => .object "java/util/List"
  | 3 => .object "java/lang/String"
  | 4 => .object "java/lang/Object"
  | _ => .int
abbrev wsJx000600 : List Cond := u_ws RJx00060 TJx00060 6
theorem nmJx00060 : ∀ a, a < 6 → ∀ b, b < 6 → a ≠ b → (TJx00060 a).2.1 ≠ (TJx00060 b).2.1 := by decide +kernel
theorem tyJx00060_ok : ∀ k, k < 6 → parseFieldDescriptor (TJx00060 k).2.2.1 = some (tyJx00060 k) := by decide +kernel
abbrev cJx00060_init_a7421 : ByteArray := prog_13_method_2_code
def yJx00060_init_a7421 : MethodName := ⟨RJx00060, "<init>", "(Ljava/lang/String;)V"⟩
def RJ11 : String := "java/lang/Character"
def TJ11 : u_T := fun k => match k with
  | _ => ("", "", "", false)
def tyJ11 : Nat → FieldType := fun k => match k with
  | _ => .int
abbrev wsJ110 : List Cond := u_ws RJ11 TJ11 0
theorem nmJ11 : ∀ a, a < 0 → ∀ b, b < 0 → a ≠ b → (TJ11 a).2.1 ≠ (TJ11 b).2.1 := by decide +kernel
theorem tyJ11_ok : ∀ k, k < 0 → parseFieldDescriptor (TJ11 k).2.2.1 = some (tyJ11 k) := by decide +kernel
abbrev cJ11_isValidCodePoint_9a6ad : ByteArray := prog_14_method_11_code
def yJ11_isValidCodePoint_9a6ad : MethodName := ⟨RJ11, "isValidCodePoint", "(I)Z"⟩
abbrev cJ11_highSurrogate_5068e : ByteArray := prog_14_method_28_code
def yJ11_highSurrogate_5068e : MethodName := ⟨RJ11, "highSurrogate", "(I)C"⟩
abbrev cJ11_lowSurrogate_5068e : ByteArray := prog_14_method_29_code
def yJ11_lowSurrogate_5068e : MethodName := ⟨RJ11, "lowSurrogate", "(I)C"⟩
def RJ6 : String := "java/lang/Integer"
def TJ6 : u_T := fun k => match k with
  | _ => ("", "", "", false)
def tyJ6 : Nat → FieldType := fun k => match k with
  | _ => .int
abbrev wsJ60 : List Cond := u_ws RJ6 TJ6 0
theorem nmJ6 : ∀ a, a < 0 → ∀ b, b < 0 → a ≠ b → (TJ6 a).2.1 ≠ (TJ6 b).2.1 := by decide +kernel
theorem tyJ6_ok : ∀ k, k < 0 → parseFieldDescriptor (TJ6 k).2.2.1 = some (tyJ6 k) := by decide +kernel
abbrev cJ6_bitCount_0f7a4 : ByteArray := prog_17_method_49_code
def yJ6_bitCount_0f7a4 : MethodName := ⟨RJ6, "bitCount", "(I)I"⟩
def RJ9 : String := "java/lang/Math"
def TJ9 : u_T := fun k => match k with
  | _ => ("", "", "", false)
def tyJ9 : Nat → FieldType := fun k => match k with
  | _ => .int
abbrev wsJ90 : List Cond := u_ws RJ9 TJ9 0
theorem nmJ9 : ∀ a, a < 0 → ∀ b, b < 0 → a ≠ b → (TJ9 a).2.1 ≠ (TJ9 b).2.1 := by decide +kernel
theorem tyJ9_ok : ∀ k, k < 0 → parseFieldDescriptor (TJ9 k).2.2.1 = some (tyJ9 k) := by decide +kernel
abbrev cJ9_max_7cf53 : ByteArray := prog_18_method_65_code
def yJ9_max_7cf53 : MethodName := ⟨RJ9, "max", "(II)I"⟩
abbrev cJ9_min_7cf53 : ByteArray := prog_18_method_69_code
def yJ9_min_7cf53 : MethodName := ⟨RJ9, "min", "(II)I"⟩
def RJ0 : String := "java/lang/String"
def TJ0 : u_T := fun k => match k with
  | _ => ("", "", "", false)
def tyJ0 : Nat → FieldType := fun k => match k with
  | _ => .int
abbrev wsJ00 : List Cond := u_ws RJ0 TJ0 0
theorem nmJ0 : ∀ a, a < 0 → ∀ b, b < 0 → a ≠ b → (TJ0 a).2.1 ≠ (TJ0 b).2.1 := by decide +kernel
theorem tyJ0_ok : ∀ k, k < 0 → parseFieldDescriptor (TJ0 k).2.2.1 = some (tyJ0 k) := by decide +kernel
abbrev cJ0_length_8abf5 : ByteArray := prog_20_method_54_code
def yJ0_length_8abf5 : MethodName := ⟨RJ0, "length", "()I"⟩
abbrev cJ0_indexOf_0f7a4 : ByteArray := prog_20_method_79_code
def yJ0_indexOf_0f7a4 : MethodName := ⟨RJ0, "indexOf", "(I)I"⟩
abbrev cJ0_indexOf_7cf53 : ByteArray := prog_20_method_80_code
def yJ0_indexOf_7cf53 : MethodName := ⟨RJ0, "indexOf", "(II)I"⟩
abbrev cJ0_coder_7d493 : ByteArray := prog_20_method_152_code
def yJ0_coder_7d493 : MethodName := ⟨RJ0, "coder", "()B"⟩
abbrev cJ0_isLatin1_aae02 : ByteArray := prog_20_method_154_code
def yJ0_isLatin1_aae02 : MethodName := ⟨RJ0, "isLatin1", "()Z"⟩
abbrev cJ0_checkBoundsBeginEnd_23922 : ByteArray := prog_20_method_158_code
def yJ0_checkBoundsBeginEnd_23922 : MethodName := ⟨RJ0, "checkBoundsBeginEnd", "(III)V"⟩
def RJ1 : String := "java/lang/StringLatin1"
def TJ1 : u_T := fun k => match k with
  | _ => ("", "", "", false)
def tyJ1 : Nat → FieldType := fun k => match k with
  | _ => .int
abbrev wsJ10 : List Cond := u_ws RJ1 TJ1 0
theorem nmJ1 : ∀ a, a < 0 → ∀ b, b < 0 → a ≠ b → (TJ1 a).2.1 ≠ (TJ1 b).2.1 := by decide +kernel
theorem tyJ1_ok : ∀ k, k < 0 → parseFieldDescriptor (TJ1 k).2.2.1 = some (tyJ1 k) := by decide +kernel
abbrev cJ1_canEncode_9a6ad : ByteArray := prog_21_method_4_code
def yJ1_canEncode_9a6ad : MethodName := ⟨RJ1, "canEncode", "(I)Z"⟩
abbrev cJ1_indexOf_4cfef : ByteArray := prog_21_method_22_code
def yJ1_indexOf_4cfef : MethodName := ⟨RJ1, "indexOf", "([BIII)I"⟩
abbrev cJ1_indexOfChar_4cfef : ByteArray := prog_21_method_23_code
def yJ1_indexOfChar_4cfef : MethodName := ⟨RJ1, "indexOfChar", "([BIII)I"⟩
def RJ2 : String := "java/lang/StringUTF16"
def TJ2 : u_T := fun k => match k with
  | _ => ("", "", "", false)
def tyJ2 : Nat → FieldType := fun k => match k with
  | _ => .int
abbrev wsJ20 : List Cond := u_ws RJ2 TJ2 0
theorem nmJ2 : ∀ a, a < 0 → ∀ b, b < 0 → a ≠ b → (TJ2 a).2.1 ≠ (TJ2 b).2.1 := by decide +kernel
theorem tyJ2_ok : ∀ k, k < 0 → parseFieldDescriptor (TJ2 k).2.2.1 = some (tyJ2 k) := by decide +kernel
abbrev cJ2_getChar_3b067 : ByteArray := prog_22_method_5_code
def yJ2_getChar_3b067 : MethodName := ⟨RJ2, "getChar", "([BI)C"⟩
abbrev cJ2_length_9d52b : ByteArray := prog_22_method_6_code
def yJ2_length_9d52b : MethodName := ⟨RJ2, "length", "([B)I"⟩
abbrev cJ2_indexOf_4cfef : ByteArray := prog_22_method_40_code
def yJ2_indexOf_4cfef : MethodName := ⟨RJ2, "indexOf", "([BIII)I"⟩
abbrev cJ2_indexOfChar_4cfef : ByteArray := prog_22_method_47_code
def yJ2_indexOfChar_4cfef : MethodName := ⟨RJ2, "indexOfChar", "([BIII)I"⟩
abbrev cJ2_indexOfCharUnsafe_4cfef : ByteArray := prog_22_method_48_code
def yJ2_indexOfCharUnsafe_4cfef : MethodName := ⟨RJ2, "indexOfCharUnsafe", "([BIII)I"⟩
abbrev cJ2_indexOfSupplementary_4cfef : ByteArray := prog_22_method_49_code
def yJ2_indexOfSupplementary_4cfef : MethodName := ⟨RJ2, "indexOfSupplementary", "([BIII)I"⟩
abbrev cJ2_checkBoundsBeginEnd_d044e : ByteArray := prog_22_method_93_code
def yJ2_checkBoundsBeginEnd_d044e : MethodName := ⟨RJ2, "checkBoundsBeginEnd", "(II[B)V"⟩
def RJ10 : String := "java/lang/System"
def TJ10 : u_T := fun k => match k with
  | _ => ("", "", "", false)
def tyJ10 : Nat → FieldType := fun k => match k with
  | _ => .int
abbrev wsJ100 : List Cond := u_ws RJ10 TJ10 0
theorem nmJ10 : ∀ a, a < 0 → ∀ b, b < 0 → a ≠ b → (TJ10 a).2.1 ≠ (TJ10 b).2.1 := by decide +kernel
theorem tyJ10_ok : ∀ k, k < 0 → parseFieldDescriptor (TJ10 k).2.2.1 = some (tyJ10 k) := by decide +kernel
def RJ3 : String := "jdk/internal/util/Preconditions"
def TJ3 : u_T := fun k => match k with
  | _ => ("", "", "", false)
def tyJ3 : Nat → FieldType := fun k => match k with
  | _ => .int
abbrev wsJ30 : List Cond := u_ws RJ3 TJ3 0
theorem nmJ3 : ∀ a, a < 0 → ∀ b, b < 0 → a ≠ b → (TJ3 a).2.1 ≠ (TJ3 b).2.1 := by decide +kernel
theorem tyJ3_ok : ∀ k, k < 0 → parseFieldDescriptor (TJ3 k).2.2.1 = some (tyJ3 k) := by decide +kernel
abbrev cJ3_checkFromToIndex_8c36e : ByteArray := prog_25_method_12_code
def yJ3_checkFromToIndex_8c36e : MethodName := ⟨RJ3, "checkFromToIndex", "(IIILjava/util/function/BiFunction;)I"⟩
def RL : String := "ChordGrammarsLaw"
abbrev cL_cell : ByteArray := method_3_code
def yL_cell : MethodName := ⟨RL, "cell", "(LChordGrammars;III[J)I"⟩
abbrev cL_law : ByteArray := code
def yL_law : MethodName := ⟨RL, "law", "([I)Z"⟩
abbrev vwCl : List vw_C := [(RJx00060, TJx00060, 6), (RX0, TX0, 7), (RX1, TX1, 2), (RX2, TX2, 6), (RX3, TX3, 2), (RX4, TX4, 4), (RX5, TX5, 4), (RX6, TX6, 2), (RX7, TX7, 1), (RX8, TX8, 13), (RX9, TX9, 8), (RX10, TX10, 48)]
end
section
theorem dX0_init_0 : decode cX0_init 0 = .ok (.aload_n 0, 1) := by decide +kernel
theorem dX0_init_1 : decode cX0_init 1 = .ok (.invokespecial 3, 3) := by decide +kernel
theorem dX0_init_4 : decode cX0_init 4 = .ok (.aload_n 0, 1) := by decide +kernel
theorem dX0_init_5 : decode cX0_init 5 = .ok (.new 9, 3) := by decide +kernel
theorem dX0_init_8 : decode cX0_init 8 = .ok (.dup, 1) := by decide +kernel
theorem dX0_init_9 : decode cX0_init 9 = .ok (.invokespecial 11, 3) := by decide +kernel
theorem dX0_init_12 : decode cX0_init 12 = .ok (.putfield 12, 3) := by decide +kernel
theorem dX0_init_15 : decode cX0_init 15 = .ok (.aload_n 0, 1) := by decide +kernel
theorem dX0_init_16 : decode cX0_init 16 = .ok (.new 18, 3) := by decide +kernel
theorem dX0_init_19 : decode cX0_init 19 = .ok (.dup, 1) := by decide +kernel
theorem dX0_init_20 : decode cX0_init 20 = .ok (.invokespecial 20, 3) := by decide +kernel
theorem dX0_init_23 : decode cX0_init 23 = .ok (.putfield 21, 3) := by decide +kernel
theorem dX0_init_26 : decode cX0_init 26 = .ok (.aload_n 0, 1) := by decide +kernel
theorem dX0_init_27 : decode cX0_init 27 = .ok (.bipush 24, 2) := by decide +kernel
theorem dX0_init_29 : decode cX0_init 29 = .ok (.newarray .int, 2) := by decide +kernel
theorem dX0_init_31 : decode cX0_init 31 = .ok (.putfield 25, 3) := by decide +kernel
theorem dX0_init_34 : decode cX0_init 34 = .ok (.aload_n 0, 1) := by decide +kernel
theorem dX0_init_35 : decode cX0_init 35 = .ok (.sipush 7800, 3) := by decide +kernel
theorem dX0_init_38 : decode cX0_init 38 = .ok (.newarray .long, 2) := by decide +kernel
theorem dX0_init_40 : decode cX0_init 40 = .ok (.putfield 29, 3) := by decide +kernel
theorem dX0_init_43 : decode cX0_init 43 = .ok (.aload_n 0, 1) := by decide +kernel
theorem dX0_init_44 : decode cX0_init 44 = .ok (.sipush 7800, 3) := by decide +kernel
theorem dX0_init_47 : decode cX0_init 47 = .ok (.newarray .int, 2) := by decide +kernel
theorem dX0_init_49 : decode cX0_init 49 = .ok (.putfield 33, 3) := by decide +kernel
theorem dX0_init_52 : decode cX0_init 52 = .ok (.aload_n 0, 1) := by decide +kernel
theorem dX0_init_53 : decode cX0_init 53 = .ok (.ldc 36, 2) := by decide +kernel
theorem dX0_init_55 : decode cX0_init 55 = .ok (.newarray .long, 2) := by decide +kernel
theorem dX0_init_57 : decode cX0_init 57 = .ok (.putfield 37, 3) := by decide +kernel
theorem dX0_init_60 : decode cX0_init 60 = .ok (.aload_n 0, 1) := by decide +kernel
theorem dX0_init_61 : decode cX0_init 61 = .ok (.iconst 0, 1) := by decide +kernel
theorem dX0_init_62 : decode cX0_init 62 = .ok (.putfield 40, 3) := by decide +kernel
theorem dX0_init_65 : decode cX0_init 65 = .ok (.return_, 1) := by decide +kernel
theorem dX0_listAll_0 : decode cX0_listAll 0 = .ok (.aload_n 0, 1) := by decide +kernel
theorem dX0_listAll_1 : decode cX0_listAll 1 = .ok (.getfield 12, 3) := by decide +kernel
theorem dX0_listAll_4 : decode cX0_listAll 4 = .ok (.aload_n 1, 1) := by decide +kernel
theorem dX0_listAll_5 : decode cX0_listAll 5 = .ok (.invokevirtual 44, 3) := by decide +kernel
theorem dX0_listAll_8 : decode cX0_listAll 8 = .ok (.aload_n 0, 1) := by decide +kernel
theorem dX0_listAll_9 : decode cX0_listAll 9 = .ok (.aload_n 2, 1) := by decide +kernel
theorem dX0_listAll_10 : decode cX0_listAll 10 = .ok (.getfield 48, 3) := by decide +kernel
theorem dX0_listAll_13 : decode cX0_listAll 13 = .ok (.putfield 40, 3) := by decide +kernel
theorem dX0_listAll_16 : decode cX0_listAll 16 = .ok (.aload_n 2, 1) := by decide +kernel
theorem dX0_listAll_17 : decode cX0_listAll 17 = .ok (.getfield 53, 3) := by decide +kernel
theorem dX0_listAll_20 : decode cX0_listAll 20 = .ok (.iconst 0, 1) := by decide +kernel
theorem dX0_listAll_21 : decode cX0_listAll 21 = .ok (.aload_n 0, 1) := by decide +kernel
theorem dX0_listAll_22 : decode cX0_listAll 22 = .ok (.getfield 25, 3) := by decide +kernel
theorem dX0_listAll_25 : decode cX0_listAll 25 = .ok (.iconst 0, 1) := by decide +kernel
theorem dX0_listAll_26 : decode cX0_listAll 26 = .ok (.bipush 24, 2) := by decide +kernel
theorem dX0_listAll_28 : decode cX0_listAll 28 = .ok (.invokestatic 54, 3) := by decide +kernel
theorem dX0_listAll_31 : decode cX0_listAll 31 = .ok (.aload_n 0, 1) := by decide +kernel
theorem dX0_listAll_32 : decode cX0_listAll 32 = .ok (.getfield 21, 3) := by decide +kernel
theorem dX0_listAll_35 : decode cX0_listAll 35 = .ok (.aload_n 2, 1) := by decide +kernel
theorem dX0_listAll_36 : decode cX0_listAll 36 = .ok (.aload_n 3, 1) := by decide +kernel
theorem dX0_listAll_37 : decode cX0_listAll 37 = .ok (.aload 4, 2) := by decide +kernel
theorem dX0_listAll_39 : decode cX0_listAll 39 = .ok (.invokevirtual 60, 3) := by decide +kernel
theorem dX0_listAll_42 : decode cX0_listAll 42 = .ok (.iconst 0, 1) := by decide +kernel
theorem dX0_listAll_43 : decode cX0_listAll 43 = .ok (.istore 5, 2) := by decide +kernel
theorem dX0_listAll_45 : decode cX0_listAll 45 = .ok (.iload 5, 2) := by decide +kernel
theorem dX0_listAll_47 : decode cX0_listAll 47 = .ok (.aload_n 0, 1) := by decide +kernel
theorem dX0_listAll_48 : decode cX0_listAll 48 = .ok (.getfield 40, 3) := by decide +kernel
theorem dX0_listAll_51 : decode cX0_listAll 51 = .ok (.if_icmp .ge 32, 3) := by decide +kernel
theorem dX0_listAll_54 : decode cX0_listAll 54 = .ok (.iload 5, 2) := by decide +kernel
theorem dX0_listAll_56 : decode cX0_listAll 56 = .ok (.istore 6, 2) := by decide +kernel
theorem dX0_listAll_58 : decode cX0_listAll 58 = .ok (.iload 6, 2) := by decide +kernel
theorem dX0_listAll_60 : decode cX0_listAll 60 = .ok (.ifCond .lt 17, 3) := by decide +kernel
theorem dX0_listAll_63 : decode cX0_listAll 63 = .ok (.aload_n 0, 1) := by decide +kernel
theorem dX0_listAll_64 : decode cX0_listAll 64 = .ok (.iload 6, 2) := by decide +kernel
theorem dX0_listAll_66 : decode cX0_listAll 66 = .ok (.iload 5, 2) := by decide +kernel
theorem dX0_listAll_68 : decode cX0_listAll 68 = .ok (.invokevirtual 64, 3) := by decide +kernel
theorem dX0_listAll_71 : decode cX0_listAll 71 = .ok (.iinc 6 (-1), 3) := by decide +kernel
theorem dX0_listAll_74 : decode cX0_listAll 74 = .ok (.goto (-16), 3) := by decide +kernel
theorem dX0_listAll_77 : decode cX0_listAll 77 = .ok (.iinc 5 1, 3) := by decide +kernel
theorem dX0_listAll_80 : decode cX0_listAll 80 = .ok (.goto (-35), 3) := by decide +kernel
theorem dX0_listAll_83 : decode cX0_listAll 83 = .ok (.return_, 1) := by decide +kernel
theorem dX0_fillSpan_0 : decode cX0_fillSpan 0 = .ok (.iconst 0, 1) := by decide +kernel
theorem dX0_fillSpan_1 : decode cX0_fillSpan 1 = .ok (.istore_n 3, 1) := by decide +kernel
theorem dX0_fillSpan_2 : decode cX0_fillSpan 2 = .ok (.iload_n 3, 1) := by decide +kernel
theorem dX0_fillSpan_3 : decode cX0_fillSpan 3 = .ok (.bipush 26, 2) := by decide +kernel
theorem dX0_fillSpan_5 : decode cX0_fillSpan 5 = .ok (.if_icmp .ge 33, 3) := by decide +kernel
theorem dX0_fillSpan_8 : decode cX0_fillSpan 8 = .ok (.aload_n 0, 1) := by decide +kernel
theorem dX0_fillSpan_9 : decode cX0_fillSpan 9 = .ok (.getfield 29, 3) := by decide +kernel
theorem dX0_fillSpan_12 : decode cX0_fillSpan 12 = .ok (.iload_n 3, 1) := by decide +kernel
theorem dX0_fillSpan_13 : decode cX0_fillSpan 13 = .ok (.iload_n 1, 1) := by decide +kernel
theorem dX0_fillSpan_14 : decode cX0_fillSpan 14 = .ok (.iload_n 2, 1) := by decide +kernel
theorem dX0_fillSpan_15 : decode cX0_fillSpan 15 = .ok (.invokestatic 68, 3) := by decide +kernel
theorem dX0_fillSpan_18 : decode cX0_fillSpan 18 = .ok (.lconst 0, 1) := by decide +kernel
theorem dX0_fillSpan_19 : decode cX0_fillSpan 19 = .ok (.lastore, 1) := by decide +kernel
theorem dX0_fillSpan_20 : decode cX0_fillSpan 20 = .ok (.aload_n 0, 1) := by decide +kernel
theorem dX0_fillSpan_21 : decode cX0_fillSpan 21 = .ok (.getfield 33, 3) := by decide +kernel
theorem dX0_fillSpan_24 : decode cX0_fillSpan 24 = .ok (.iload_n 3, 1) := by decide +kernel
theorem dX0_fillSpan_25 : decode cX0_fillSpan 25 = .ok (.iload_n 1, 1) := by decide +kernel
theorem dX0_fillSpan_26 : decode cX0_fillSpan 26 = .ok (.iload_n 2, 1) := by decide +kernel
theorem dX0_fillSpan_27 : decode cX0_fillSpan 27 = .ok (.invokestatic 68, 3) := by decide +kernel
theorem dX0_fillSpan_30 : decode cX0_fillSpan 30 = .ok (.iconst 0, 1) := by decide +kernel
theorem dX0_fillSpan_31 : decode cX0_fillSpan 31 = .ok (.iastore, 1) := by decide +kernel
theorem dX0_fillSpan_32 : decode cX0_fillSpan 32 = .ok (.iinc 3 1, 3) := by decide +kernel
theorem dX0_fillSpan_35 : decode cX0_fillSpan 35 = .ok (.goto (-33), 3) := by decide +kernel
theorem dX0_fillSpan_38 : decode cX0_fillSpan 38 = .ok (.iconst 0, 1) := by decide +kernel
theorem dX0_fillSpan_39 : decode cX0_fillSpan 39 = .ok (.istore_n 3, 1) := by decide +kernel
theorem dX0_fillSpan_40 : decode cX0_fillSpan 40 = .ok (.iload_n 3, 1) := by decide +kernel
theorem dX0_fillSpan_41 : decode cX0_fillSpan 41 = .ok (.aload_n 0, 1) := by decide +kernel
theorem dX0_fillSpan_42 : decode cX0_fillSpan 42 = .ok (.getfield 12, 3) := by decide +kernel
theorem dX0_fillSpan_45 : decode cX0_fillSpan 45 = .ok (.getfield 72, 3) := by decide +kernel
theorem dX0_fillSpan_48 : decode cX0_fillSpan 48 = .ok (.if_icmp .ge 72, 3) := by decide +kernel
theorem dX0_fillSpan_51 : decode cX0_fillSpan 51 = .ok (.aload_n 0, 1) := by decide +kernel
theorem dX0_fillSpan_52 : decode cX0_fillSpan 52 = .ok (.getfield 12, 3) := by decide +kernel
theorem dX0_fillSpan_55 : decode cX0_fillSpan 55 = .ok (.getfield 75, 3) := by decide +kernel
theorem dX0_fillSpan_58 : decode cX0_fillSpan 58 = .ok (.iload_n 3, 1) := by decide +kernel
theorem dX0_fillSpan_59 : decode cX0_fillSpan 59 = .ok (.iaload, 1) := by decide +kernel
theorem dX0_fillSpan_60 : decode cX0_fillSpan 60 = .ok (.istore 4, 2) := by decide +kernel
theorem dX0_fillSpan_62 : decode cX0_fillSpan 62 = .ok (.aload_n 0, 1) := by decide +kernel
theorem dX0_fillSpan_63 : decode cX0_fillSpan 63 = .ok (.getfield 12, 3) := by decide +kernel
theorem dX0_fillSpan_66 : decode cX0_fillSpan 66 = .ok (.getfield 78, 3) := by decide +kernel
theorem dX0_fillSpan_69 : decode cX0_fillSpan 69 = .ok (.iload 4, 2) := by decide +kernel
theorem dX0_fillSpan_71 : decode cX0_fillSpan 71 = .ok (.iaload, 1) := by decide +kernel
theorem dX0_fillSpan_72 : decode cX0_fillSpan 72 = .ok (.iconst (-1), 1) := by decide +kernel
theorem dX0_fillSpan_73 : decode cX0_fillSpan 73 = .ok (.if_icmp .ne 14, 3) := by decide +kernel
theorem dX0_fillSpan_76 : decode cX0_fillSpan 76 = .ok (.aload_n 0, 1) := by decide +kernel
theorem dX0_fillSpan_77 : decode cX0_fillSpan 77 = .ok (.iload 4, 2) := by decide +kernel
theorem dX0_fillSpan_79 : decode cX0_fillSpan 79 = .ok (.iload_n 1, 1) := by decide +kernel
theorem dX0_fillSpan_80 : decode cX0_fillSpan 80 = .ok (.iload_n 2, 1) := by decide +kernel
theorem dX0_fillSpan_81 : decode cX0_fillSpan 81 = .ok (.invokevirtual 81, 3) := by decide +kernel
theorem dX0_fillSpan_84 : decode cX0_fillSpan 84 = .ok (.goto 30, 3) := by decide +kernel
theorem dX0_fillSpan_87 : decode cX0_fillSpan 87 = .ok (.iconst 1, 1) := by decide +kernel
theorem dX0_fillSpan_88 : decode cX0_fillSpan 88 = .ok (.istore 5, 2) := by decide +kernel
theorem dX0_fillSpan_90 : decode cX0_fillSpan 90 = .ok (.iload 5, 2) := by decide +kernel
theorem dX0_fillSpan_92 : decode cX0_fillSpan 92 = .ok (.iload_n 2, 1) := by decide +kernel
theorem dX0_fillSpan_93 : decode cX0_fillSpan 93 = .ok (.iload_n 1, 1) := by decide +kernel
theorem dX0_fillSpan_94 : decode cX0_fillSpan 94 = .ok (.isub, 1) := by decide +kernel
theorem dX0_fillSpan_95 : decode cX0_fillSpan 95 = .ok (.if_icmp .gt 19, 3) := by decide +kernel
theorem dX0_fillSpan_98 : decode cX0_fillSpan 98 = .ok (.aload_n 0, 1) := by decide +kernel
theorem dX0_fillSpan_99 : decode cX0_fillSpan 99 = .ok (.iload 4, 2) := by decide +kernel
theorem dX0_fillSpan_101 : decode cX0_fillSpan 101 = .ok (.iload_n 1, 1) := by decide +kernel
theorem dX0_fillSpan_102 : decode cX0_fillSpan 102 = .ok (.iload_n 2, 1) := by decide +kernel
theorem dX0_fillSpan_103 : decode cX0_fillSpan 103 = .ok (.iload 5, 2) := by decide +kernel
theorem dX0_fillSpan_105 : decode cX0_fillSpan 105 = .ok (.invokevirtual 85, 3) := by decide +kernel
theorem dX0_fillSpan_108 : decode cX0_fillSpan 108 = .ok (.iinc 5 1, 3) := by decide +kernel
theorem dX0_fillSpan_111 : decode cX0_fillSpan 111 = .ok (.goto (-21), 3) := by decide +kernel
theorem dX0_fillSpan_114 : decode cX0_fillSpan 114 = .ok (.iinc 3 1, 3) := by decide +kernel
theorem dX0_fillSpan_117 : decode cX0_fillSpan 117 = .ok (.goto (-77), 3) := by decide +kernel
theorem dX0_fillSpan_120 : decode cX0_fillSpan 120 = .ok (.return_, 1) := by decide +kernel
theorem dX0_addWhole_0 : decode cX0_addWhole 0 = .ok (.aload_n 0, 1) := by decide +kernel
theorem dX0_addWhole_1 : decode cX0_addWhole 1 = .ok (.getfield 12, 3) := by decide +kernel
theorem dX0_addWhole_4 : decode cX0_addWhole 4 = .ok (.getfield 89, 3) := by decide +kernel
theorem dX0_addWhole_7 : decode cX0_addWhole 7 = .ok (.iload_n 1, 1) := by decide +kernel
theorem dX0_addWhole_8 : decode cX0_addWhole 8 = .ok (.iaload, 1) := by decide +kernel
theorem dX0_addWhole_9 : decode cX0_addWhole 9 = .ok (.iload_n 2, 1) := by decide +kernel
theorem dX0_addWhole_10 : decode cX0_addWhole 10 = .ok (.iload_n 3, 1) := by decide +kernel
theorem dX0_addWhole_11 : decode cX0_addWhole 11 = .ok (.invokestatic 68, 3) := by decide +kernel
theorem dX0_addWhole_14 : decode cX0_addWhole 14 = .ok (.istore 4, 2) := by decide +kernel
theorem dX0_addWhole_16 : decode cX0_addWhole 16 = .ok (.aload_n 0, 1) := by decide +kernel
theorem dX0_addWhole_17 : decode cX0_addWhole 17 = .ok (.getfield 12, 3) := by decide +kernel
theorem dX0_addWhole_20 : decode cX0_addWhole 20 = .ok (.getfield 92, 3) := by decide +kernel
theorem dX0_addWhole_23 : decode cX0_addWhole 23 = .ok (.iload_n 1, 1) := by decide +kernel
theorem dX0_addWhole_24 : decode cX0_addWhole 24 = .ok (.iaload, 1) := by decide +kernel
theorem dX0_addWhole_25 : decode cX0_addWhole 25 = .ok (.istore 5, 2) := by decide +kernel
theorem dX0_addWhole_27 : decode cX0_addWhole 27 = .ok (.aload_n 0, 1) := by decide +kernel
theorem dX0_addWhole_28 : decode cX0_addWhole 28 = .ok (.iload 5, 2) := by decide +kernel
theorem dX0_addWhole_30 : decode cX0_addWhole 30 = .ok (.iload_n 2, 1) := by decide +kernel
theorem dX0_addWhole_31 : decode cX0_addWhole 31 = .ok (.iload_n 3, 1) := by decide +kernel
theorem dX0_addWhole_32 : decode cX0_addWhole 32 = .ok (.invokevirtual 95, 3) := by decide +kernel
theorem dX0_addWhole_35 : decode cX0_addWhole 35 = .ok (.istore 6, 2) := by decide +kernel
theorem dX0_addWhole_37 : decode cX0_addWhole 37 = .ok (.iload 6, 2) := by decide +kernel
theorem dX0_addWhole_39 : decode cX0_addWhole 39 = .ok (.ifCond .ne 4, 3) := by decide +kernel
theorem dX0_addWhole_42 : decode cX0_addWhole 42 = .ok (.return_, 1) := by decide +kernel
theorem dX0_addWhole_43 : decode cX0_addWhole 43 = .ok (.aload_n 0, 1) := by decide +kernel
theorem dX0_addWhole_44 : decode cX0_addWhole 44 = .ok (.getfield 29, 3) := by decide +kernel
theorem dX0_addWhole_47 : decode cX0_addWhole 47 = .ok (.iload 4, 2) := by decide +kernel
theorem dX0_addWhole_49 : decode cX0_addWhole 49 = .ok (.dup2, 1) := by decide +kernel
theorem dX0_addWhole_50 : decode cX0_addWhole 50 = .ok (.laload, 1) := by decide +kernel
theorem dX0_addWhole_51 : decode cX0_addWhole 51 = .ok (.aload_n 0, 1) := by decide +kernel
theorem dX0_addWhole_52 : decode cX0_addWhole 52 = .ok (.iload 5, 2) := by decide +kernel
theorem dX0_addWhole_54 : decode cX0_addWhole 54 = .ok (.iload_n 2, 1) := by decide +kernel
theorem dX0_addWhole_55 : decode cX0_addWhole 55 = .ok (.iload_n 3, 1) := by decide +kernel
theorem dX0_addWhole_56 : decode cX0_addWhole 56 = .ok (.invokevirtual 98, 3) := by decide +kernel
theorem dX0_addWhole_59 : decode cX0_addWhole 59 = .ok (.ladd, 1) := by decide +kernel
theorem dX0_addWhole_60 : decode cX0_addWhole 60 = .ok (.lastore, 1) := by decide +kernel
theorem dX0_addWhole_61 : decode cX0_addWhole 61 = .ok (.iconst 1, 1) := by decide +kernel
theorem dX0_addWhole_62 : decode cX0_addWhole 62 = .ok (.istore 7, 2) := by decide +kernel
theorem dX0_addWhole_64 : decode cX0_addWhole 64 = .ok (.iconst 0, 1) := by decide +kernel
theorem dX0_addWhole_65 : decode cX0_addWhole 65 = .ok (.istore 8, 2) := by decide +kernel
theorem dX0_addWhole_67 : decode cX0_addWhole 67 = .ok (.iload 8, 2) := by decide +kernel
theorem dX0_addWhole_69 : decode cX0_addWhole 69 = .ok (.iload 6, 2) := by decide +kernel
theorem dX0_addWhole_71 : decode cX0_addWhole 71 = .ok (.if_icmp .ge 54, 3) := by decide +kernel
theorem dX0_addWhole_74 : decode cX0_addWhole 74 = .ok (.iload 7, 2) := by decide +kernel
theorem dX0_addWhole_76 : decode cX0_addWhole 76 = .ok (.ifCond .eq 49, 3) := by decide +kernel
theorem dX0_addWhole_79 : decode cX0_addWhole 79 = .ok (.aload_n 0, 1) := by decide +kernel
theorem dX0_addWhole_80 : decode cX0_addWhole 80 = .ok (.getfield 12, 3) := by decide +kernel
theorem dX0_addWhole_83 : decode cX0_addWhole 83 = .ok (.getfield 102, 3) := by decide +kernel
theorem dX0_addWhole_86 : decode cX0_addWhole 86 = .ok (.iload_n 1, 1) := by decide +kernel
theorem dX0_addWhole_87 : decode cX0_addWhole 87 = .ok (.iaload, 1) := by decide +kernel
theorem dX0_addWhole_88 : decode cX0_addWhole 88 = .ok (.aload_n 0, 1) := by decide +kernel
theorem dX0_addWhole_89 : decode cX0_addWhole 89 = .ok (.iload 5, 2) := by decide +kernel
theorem dX0_addWhole_91 : decode cX0_addWhole 91 = .ok (.iload_n 2, 1) := by decide +kernel
theorem dX0_addWhole_92 : decode cX0_addWhole 92 = .ok (.iload_n 3, 1) := by decide +kernel
theorem dX0_addWhole_93 : decode cX0_addWhole 93 = .ok (.iload 8, 2) := by decide +kernel
theorem dX0_addWhole_95 : decode cX0_addWhole 95 = .ok (.invokevirtual 105, 3) := by decide +kernel
theorem dX0_addWhole_98 : decode cX0_addWhole 98 = .ok (.iadd, 1) := by decide +kernel
theorem dX0_addWhole_99 : decode cX0_addWhole 99 = .ok (.istore 9, 2) := by decide +kernel
theorem dX0_addWhole_101 : decode cX0_addWhole 101 = .ok (.aload_n 0, 1) := by decide +kernel
theorem dX0_addWhole_102 : decode cX0_addWhole 102 = .ok (.iload 4, 2) := by decide +kernel
theorem dX0_addWhole_104 : decode cX0_addWhole 104 = .ok (.iload 9, 2) := by decide +kernel
theorem dX0_addWhole_106 : decode cX0_addWhole 106 = .ok (.iload_n 1, 1) := by decide +kernel
theorem dX0_addWhole_107 : decode cX0_addWhole 107 = .ok (.iconst 0, 1) := by decide +kernel
theorem dX0_addWhole_108 : decode cX0_addWhole 108 = .ok (.iload 8, 2) := by decide +kernel
theorem dX0_addWhole_110 : decode cX0_addWhole 110 = .ok (.iconst 0, 1) := by decide +kernel
theorem dX0_addWhole_111 : decode cX0_addWhole 111 = .ok (.invokestatic 109, 3) := by decide +kernel
theorem dX0_addWhole_114 : decode cX0_addWhole 114 = .ok (.invokevirtual 113, 3) := by decide +kernel
theorem dX0_addWhole_117 : decode cX0_addWhole 117 = .ok (.istore 7, 2) := by decide +kernel
theorem dX0_addWhole_119 : decode cX0_addWhole 119 = .ok (.iinc 8 1, 3) := by decide +kernel
theorem dX0_addWhole_122 : decode cX0_addWhole 122 = .ok (.goto (-55), 3) := by decide +kernel
theorem dX0_addWhole_125 : decode cX0_addWhole 125 = .ok (.return_, 1) := by decide +kernel
theorem dX0_addParts_0 : decode cX0_addParts 0 = .ok (.iload_n 2, 1) := by decide +kernel
theorem dX0_addParts_1 : decode cX0_addParts 1 = .ok (.iload 4, 2) := by decide +kernel
theorem dX0_addParts_3 : decode cX0_addParts 3 = .ok (.iadd, 1) := by decide +kernel
theorem dX0_addParts_4 : decode cX0_addParts 4 = .ok (.istore 5, 2) := by decide +kernel
theorem dX0_addParts_6 : decode cX0_addParts 6 = .ok (.aload_n 0, 1) := by decide +kernel
theorem dX0_addParts_7 : decode cX0_addParts 7 = .ok (.getfield 12, 3) := by decide +kernel
theorem dX0_addParts_10 : decode cX0_addParts 10 = .ok (.getfield 92, 3) := by decide +kernel
theorem dX0_addParts_13 : decode cX0_addParts 13 = .ok (.iload_n 1, 1) := by decide +kernel
theorem dX0_addParts_14 : decode cX0_addParts 14 = .ok (.iaload, 1) := by decide +kernel
theorem dX0_addParts_15 : decode cX0_addParts 15 = .ok (.istore 6, 2) := by decide +kernel
theorem dX0_addParts_17 : decode cX0_addParts 17 = .ok (.aload_n 0, 1) := by decide +kernel
theorem dX0_addParts_18 : decode cX0_addParts 18 = .ok (.getfield 12, 3) := by decide +kernel
theorem dX0_addParts_21 : decode cX0_addParts 21 = .ok (.getfield 78, 3) := by decide +kernel
theorem dX0_addParts_24 : decode cX0_addParts 24 = .ok (.iload_n 1, 1) := by decide +kernel
theorem dX0_addParts_25 : decode cX0_addParts 25 = .ok (.iaload, 1) := by decide +kernel
theorem dX0_addParts_26 : decode cX0_addParts 26 = .ok (.istore 7, 2) := by decide +kernel
theorem dX0_addParts_28 : decode cX0_addParts 28 = .ok (.aload_n 0, 1) := by decide +kernel
theorem dX0_addParts_29 : decode cX0_addParts 29 = .ok (.iload 6, 2) := by decide +kernel
theorem dX0_addParts_31 : decode cX0_addParts 31 = .ok (.iload_n 2, 1) := by decide +kernel
theorem dX0_addParts_32 : decode cX0_addParts 32 = .ok (.iload 5, 2) := by decide +kernel
theorem dX0_addParts_34 : decode cX0_addParts 34 = .ok (.iconst 1, 1) := by decide +kernel
theorem dX0_addParts_35 : decode cX0_addParts 35 = .ok (.isub, 1) := by decide +kernel
theorem dX0_addParts_36 : decode cX0_addParts 36 = .ok (.invokevirtual 95, 3) := by decide +kernel
theorem dX0_addParts_39 : decode cX0_addParts 39 = .ok (.istore 8, 2) := by decide +kernel
theorem dX0_addParts_41 : decode cX0_addParts 41 = .ok (.iload 8, 2) := by decide +kernel
theorem dX0_addParts_43 : decode cX0_addParts 43 = .ok (.ifCond .ne 7, 3) := by decide +kernel
theorem dX0_addParts_46 : decode cX0_addParts 46 = .ok (.iconst 0, 1) := by decide +kernel
theorem dX0_addParts_47 : decode cX0_addParts 47 = .ok (.goto 12, 3) := by decide +kernel
theorem dX0_addParts_50 : decode cX0_addParts 50 = .ok (.aload_n 0, 1) := by decide +kernel
theorem dX0_addParts_51 : decode cX0_addParts 51 = .ok (.iload 7, 2) := by decide +kernel
theorem dX0_addParts_53 : decode cX0_addParts 53 = .ok (.iload 5, 2) := by decide +kernel
theorem dX0_addParts_55 : decode cX0_addParts 55 = .ok (.iload_n 3, 1) := by decide +kernel
theorem dX0_addParts_56 : decode cX0_addParts 56 = .ok (.invokevirtual 95, 3) := by decide +kernel
theorem dX0_addParts_59 : decode cX0_addParts 59 = .ok (.istore 9, 2) := by decide +kernel
theorem dX0_addParts_61 : decode cX0_addParts 61 = .ok (.iload 9, 2) := by decide +kernel
theorem dX0_addParts_63 : decode cX0_addParts 63 = .ok (.ifCond .ne 4, 3) := by decide +kernel
theorem dX0_addParts_66 : decode cX0_addParts 66 = .ok (.return_, 1) := by decide +kernel
theorem dX0_addParts_67 : decode cX0_addParts 67 = .ok (.aload_n 0, 1) := by decide +kernel
theorem dX0_addParts_68 : decode cX0_addParts 68 = .ok (.getfield 12, 3) := by decide +kernel
theorem dX0_addParts_71 : decode cX0_addParts 71 = .ok (.getfield 89, 3) := by decide +kernel
theorem dX0_addParts_74 : decode cX0_addParts 74 = .ok (.iload_n 1, 1) := by decide +kernel
theorem dX0_addParts_75 : decode cX0_addParts 75 = .ok (.iaload, 1) := by decide +kernel
theorem dX0_addParts_76 : decode cX0_addParts 76 = .ok (.iload_n 2, 1) := by decide +kernel
theorem dX0_addParts_77 : decode cX0_addParts 77 = .ok (.iload_n 3, 1) := by decide +kernel
theorem dX0_addParts_78 : decode cX0_addParts 78 = .ok (.invokestatic 68, 3) := by decide +kernel
theorem dX0_addParts_81 : decode cX0_addParts 81 = .ok (.istore 10, 2) := by decide +kernel
theorem dX0_addParts_83 : decode cX0_addParts 83 = .ok (.aload_n 0, 1) := by decide +kernel
theorem dX0_addParts_84 : decode cX0_addParts 84 = .ok (.getfield 29, 3) := by decide +kernel
theorem dX0_addParts_87 : decode cX0_addParts 87 = .ok (.iload 10, 2) := by decide +kernel
theorem dX0_addParts_89 : decode cX0_addParts 89 = .ok (.dup2, 1) := by decide +kernel
theorem dX0_addParts_90 : decode cX0_addParts 90 = .ok (.laload, 1) := by decide +kernel
theorem dX0_addParts_91 : decode cX0_addParts 91 = .ok (.aload_n 0, 1) := by decide +kernel
theorem dX0_addParts_92 : decode cX0_addParts 92 = .ok (.iload 6, 2) := by decide +kernel
theorem dX0_addParts_94 : decode cX0_addParts 94 = .ok (.iload_n 2, 1) := by decide +kernel
theorem dX0_addParts_95 : decode cX0_addParts 95 = .ok (.iload 5, 2) := by decide +kernel
theorem dX0_addParts_97 : decode cX0_addParts 97 = .ok (.iconst 1, 1) := by decide +kernel
theorem dX0_addParts_98 : decode cX0_addParts 98 = .ok (.isub, 1) := by decide +kernel
theorem dX0_addParts_99 : decode cX0_addParts 99 = .ok (.invokevirtual 98, 3) := by decide +kernel
theorem dX0_addParts_102 : decode cX0_addParts 102 = .ok (.aload_n 0, 1) := by decide +kernel
theorem dX0_addParts_103 : decode cX0_addParts 103 = .ok (.iload 7, 2) := by decide +kernel
theorem dX0_addParts_105 : decode cX0_addParts 105 = .ok (.iload 5, 2) := by decide +kernel
theorem dX0_addParts_107 : decode cX0_addParts 107 = .ok (.iload_n 3, 1) := by decide +kernel
theorem dX0_addParts_108 : decode cX0_addParts 108 = .ok (.invokevirtual 98, 3) := by decide +kernel
theorem dX0_addParts_111 : decode cX0_addParts 111 = .ok (.lmul, 1) := by decide +kernel
theorem dX0_addParts_112 : decode cX0_addParts 112 = .ok (.ladd, 1) := by decide +kernel
theorem dX0_addParts_113 : decode cX0_addParts 113 = .ok (.lastore, 1) := by decide +kernel
theorem dX0_addParts_114 : decode cX0_addParts 114 = .ok (.iconst 1, 1) := by decide +kernel
theorem dX0_addParts_115 : decode cX0_addParts 115 = .ok (.istore 11, 2) := by decide +kernel
theorem dX0_addParts_117 : decode cX0_addParts 117 = .ok (.iconst 0, 1) := by decide +kernel
theorem dX0_addParts_118 : decode cX0_addParts 118 = .ok (.istore 12, 2) := by decide +kernel
theorem dX0_addParts_120 : decode cX0_addParts 120 = .ok (.iload 12, 2) := by decide +kernel
theorem dX0_addParts_122 : decode cX0_addParts 122 = .ok (.iload 8, 2) := by decide +kernel
theorem dX0_addParts_124 : decode cX0_addParts 124 = .ok (.if_icmp .ge 114, 3) := by decide +kernel
theorem dX0_addParts_127 : decode cX0_addParts 127 = .ok (.iload 11, 2) := by decide +kernel
theorem dX0_addParts_129 : decode cX0_addParts 129 = .ok (.ifCond .eq 109, 3) := by decide +kernel
theorem dX0_addParts_132 : decode cX0_addParts 132 = .ok (.aload_n 0, 1) := by decide +kernel
theorem dX0_addParts_133 : decode cX0_addParts 133 = .ok (.getfield 12, 3) := by decide +kernel
theorem dX0_addParts_136 : decode cX0_addParts 136 = .ok (.getfield 102, 3) := by decide +kernel
theorem dX0_addParts_139 : decode cX0_addParts 139 = .ok (.iload_n 1, 1) := by decide +kernel
theorem dX0_addParts_140 : decode cX0_addParts 140 = .ok (.iaload, 1) := by decide +kernel
theorem dX0_addParts_141 : decode cX0_addParts 141 = .ok (.aload_n 0, 1) := by decide +kernel
theorem dX0_addParts_142 : decode cX0_addParts 142 = .ok (.iload 6, 2) := by decide +kernel
theorem dX0_addParts_144 : decode cX0_addParts 144 = .ok (.iload_n 2, 1) := by decide +kernel
theorem dX0_addParts_145 : decode cX0_addParts 145 = .ok (.iload 5, 2) := by decide +kernel
theorem dX0_addParts_147 : decode cX0_addParts 147 = .ok (.iconst 1, 1) := by decide +kernel
theorem dX0_addParts_148 : decode cX0_addParts 148 = .ok (.isub, 1) := by decide +kernel
theorem dX0_addParts_149 : decode cX0_addParts 149 = .ok (.iload 12, 2) := by decide +kernel
theorem dX0_addParts_151 : decode cX0_addParts 151 = .ok (.invokevirtual 105, 3) := by decide +kernel
theorem dX0_addParts_154 : decode cX0_addParts 154 = .ok (.iadd, 1) := by decide +kernel
theorem dX0_addParts_155 : decode cX0_addParts 155 = .ok (.istore 13, 2) := by decide +kernel
theorem dX0_addParts_157 : decode cX0_addParts 157 = .ok (.iload 9, 2) := by decide +kernel
theorem dX0_addParts_159 : decode cX0_addParts 159 = .ok (.bipush 30, 2) := by decide +kernel
theorem dX0_addParts_161 : decode cX0_addParts 161 = .ok (.iload 12, 2) := by decide +kernel
theorem dX0_addParts_163 : decode cX0_addParts 163 = .ok (.iconst 1, 1) := by decide +kernel
theorem dX0_addParts_164 : decode cX0_addParts 164 = .ok (.iadd, 1) := by decide +kernel
theorem dX0_addParts_165 : decode cX0_addParts 165 = .ok (.idiv, 1) := by decide +kernel
theorem dX0_addParts_166 : decode cX0_addParts 166 = .ok (.invokestatic 117, 3) := by decide +kernel
theorem dX0_addParts_169 : decode cX0_addParts 169 = .ok (.istore 14, 2) := by decide +kernel
theorem dX0_addParts_171 : decode cX0_addParts 171 = .ok (.iconst 0, 1) := by decide +kernel
theorem dX0_addParts_172 : decode cX0_addParts 172 = .ok (.istore 15, 2) := by decide +kernel
theorem dX0_addParts_174 : decode cX0_addParts 174 = .ok (.iload 15, 2) := by decide +kernel
theorem dX0_addParts_176 : decode cX0_addParts 176 = .ok (.iload 14, 2) := by decide +kernel
theorem dX0_addParts_178 : decode cX0_addParts 178 = .ok (.if_icmp .ge 42, 3) := by decide +kernel
theorem dX0_addParts_181 : decode cX0_addParts 181 = .ok (.aload_n 0, 1) := by decide +kernel
theorem dX0_addParts_182 : decode cX0_addParts 182 = .ok (.iload 10, 2) := by decide +kernel
theorem dX0_addParts_184 : decode cX0_addParts 184 = .ok (.iload 13, 2) := by decide +kernel
theorem dX0_addParts_186 : decode cX0_addParts 186 = .ok (.aload_n 0, 1) := by decide +kernel
theorem dX0_addParts_187 : decode cX0_addParts 187 = .ok (.iload 7, 2) := by decide +kernel
theorem dX0_addParts_189 : decode cX0_addParts 189 = .ok (.iload 5, 2) := by decide +kernel
theorem dX0_addParts_191 : decode cX0_addParts 191 = .ok (.iload_n 3, 1) := by decide +kernel
theorem dX0_addParts_192 : decode cX0_addParts 192 = .ok (.iload 15, 2) := by decide +kernel
theorem dX0_addParts_194 : decode cX0_addParts 194 = .ok (.invokevirtual 105, 3) := by decide +kernel
theorem dX0_addParts_197 : decode cX0_addParts 197 = .ok (.iadd, 1) := by decide +kernel
theorem dX0_addParts_198 : decode cX0_addParts 198 = .ok (.iload_n 1, 1) := by decide +kernel
theorem dX0_addParts_199 : decode cX0_addParts 199 = .ok (.iload 4, 2) := by decide +kernel
theorem dX0_addParts_201 : decode cX0_addParts 201 = .ok (.iload 12, 2) := by decide +kernel
theorem dX0_addParts_203 : decode cX0_addParts 203 = .ok (.iload 15, 2) := by decide +kernel
theorem dX0_addParts_205 : decode cX0_addParts 205 = .ok (.invokestatic 109, 3) := by decide +kernel
theorem dX0_addParts_208 : decode cX0_addParts 208 = .ok (.invokevirtual 113, 3) := by decide +kernel
theorem dX0_addParts_211 : decode cX0_addParts 211 = .ok (.ifCond .eq 9, 3) := by decide +kernel
theorem dX0_addParts_214 : decode cX0_addParts 214 = .ok (.iinc 15 1, 3) := by decide +kernel
theorem dX0_addParts_217 : decode cX0_addParts 217 = .ok (.goto (-43), 3) := by decide +kernel
theorem dX0_addParts_220 : decode cX0_addParts 220 = .ok (.iload 15, 2) := by decide +kernel
theorem dX0_addParts_222 : decode cX0_addParts 222 = .ok (.ifCond .le 7, 3) := by decide +kernel
theorem dX0_addParts_225 : decode cX0_addParts 225 = .ok (.iconst 1, 1) := by decide +kernel
theorem dX0_addParts_226 : decode cX0_addParts 226 = .ok (.goto 4, 3) := by decide +kernel
theorem dX0_addParts_229 : decode cX0_addParts 229 = .ok (.iconst 0, 1) := by decide +kernel
theorem dX0_addParts_230 : decode cX0_addParts 230 = .ok (.istore 11, 2) := by decide +kernel
theorem dX0_addParts_232 : decode cX0_addParts 232 = .ok (.iinc 12 1, 3) := by decide +kernel
theorem dX0_addParts_235 : decode cX0_addParts 235 = .ok (.goto (-115), 3) := by decide +kernel
theorem dX0_addParts_238 : decode cX0_addParts 238 = .ok (.return_, 1) := by decide +kernel
theorem dX0_offer_0 : decode cX0_offer 0 = .ok (.iload_n 1, 1) := by decide +kernel
theorem dX0_offer_1 : decode cX0_offer 1 = .ok (.bipush 30, 2) := by decide +kernel
theorem dX0_offer_3 : decode cX0_offer 3 = .ok (.imul, 1) := by decide +kernel
theorem dX0_offer_4 : decode cX0_offer 4 = .ok (.istore 4, 2) := by decide +kernel
theorem dX0_offer_6 : decode cX0_offer 6 = .ok (.aload_n 0, 1) := by decide +kernel
theorem dX0_offer_7 : decode cX0_offer 7 = .ok (.getfield 33, 3) := by decide +kernel
theorem dX0_offer_10 : decode cX0_offer 10 = .ok (.iload_n 1, 1) := by decide +kernel
theorem dX0_offer_11 : decode cX0_offer 11 = .ok (.iaload, 1) := by decide +kernel
theorem dX0_offer_12 : decode cX0_offer 12 = .ok (.istore 5, 2) := by decide +kernel
theorem dX0_offer_14 : decode cX0_offer 14 = .ok (.iload 5, 2) := by decide +kernel
theorem dX0_offer_16 : decode cX0_offer 16 = .ok (.bipush 30, 2) := by decide +kernel
theorem dX0_offer_18 : decode cX0_offer 18 = .ok (.if_icmp .ge 16, 3) := by decide +kernel
theorem dX0_offer_21 : decode cX0_offer 21 = .ok (.aload_n 0, 1) := by decide +kernel
theorem dX0_offer_22 : decode cX0_offer 22 = .ok (.getfield 33, 3) := by decide +kernel
theorem dX0_offer_25 : decode cX0_offer 25 = .ok (.iload_n 1, 1) := by decide +kernel
theorem dX0_offer_26 : decode cX0_offer 26 = .ok (.iload 5, 2) := by decide +kernel
theorem dX0_offer_28 : decode cX0_offer 28 = .ok (.iconst 1, 1) := by decide +kernel
theorem dX0_offer_29 : decode cX0_offer 29 = .ok (.iadd, 1) := by decide +kernel
theorem dX0_offer_30 : decode cX0_offer 30 = .ok (.iastore, 1) := by decide +kernel
theorem dX0_offer_31 : decode cX0_offer 31 = .ok (.goto 24, 3) := by decide +kernel
theorem dX0_offer_34 : decode cX0_offer 34 = .ok (.bipush 29, 2) := by decide +kernel
theorem dX0_offer_36 : decode cX0_offer 36 = .ok (.istore 5, 2) := by decide +kernel
theorem dX0_offer_38 : decode cX0_offer 38 = .ok (.lload_n 2, 1) := by decide +kernel
theorem dX0_offer_39 : decode cX0_offer 39 = .ok (.aload_n 0, 1) := by decide +kernel
theorem dX0_offer_40 : decode cX0_offer 40 = .ok (.getfield 37, 3) := by decide +kernel
theorem dX0_offer_43 : decode cX0_offer 43 = .ok (.iload 4, 2) := by decide +kernel
theorem dX0_offer_45 : decode cX0_offer 45 = .ok (.iload 5, 2) := by decide +kernel
theorem dX0_offer_47 : decode cX0_offer 47 = .ok (.iadd, 1) := by decide +kernel
theorem dX0_offer_48 : decode cX0_offer 48 = .ok (.laload, 1) := by decide +kernel
theorem dX0_offer_49 : decode cX0_offer 49 = .ok (.lcmp, 1) := by decide +kernel
theorem dX0_offer_50 : decode cX0_offer 50 = .ok (.ifCond .lt 5, 3) := by decide +kernel
theorem dX0_offer_53 : decode cX0_offer 53 = .ok (.iconst 0, 1) := by decide +kernel
theorem dX0_offer_54 : decode cX0_offer 54 = .ok (.ireturn, 1) := by decide +kernel
theorem dX0_offer_55 : decode cX0_offer 55 = .ok (.iload 5, 2) := by decide +kernel
theorem dX0_offer_57 : decode cX0_offer 57 = .ok (.ifCond .le 48, 3) := by decide +kernel
theorem dX0_offer_60 : decode cX0_offer 60 = .ok (.aload_n 0, 1) := by decide +kernel
theorem dX0_offer_61 : decode cX0_offer 61 = .ok (.getfield 37, 3) := by decide +kernel
theorem dX0_offer_64 : decode cX0_offer 64 = .ok (.iload 4, 2) := by decide +kernel
theorem dX0_offer_66 : decode cX0_offer 66 = .ok (.iload 5, 2) := by decide +kernel
theorem dX0_offer_68 : decode cX0_offer 68 = .ok (.iadd, 1) := by decide +kernel
theorem dX0_offer_69 : decode cX0_offer 69 = .ok (.iconst 1, 1) := by decide +kernel
theorem dX0_offer_70 : decode cX0_offer 70 = .ok (.isub, 1) := by decide +kernel
theorem dX0_offer_71 : decode cX0_offer 71 = .ok (.laload, 1) := by decide +kernel
theorem dX0_offer_72 : decode cX0_offer 72 = .ok (.lload_n 2, 1) := by decide +kernel
theorem dX0_offer_73 : decode cX0_offer 73 = .ok (.lcmp, 1) := by decide +kernel
theorem dX0_offer_74 : decode cX0_offer 74 = .ok (.ifCond .le 31, 3) := by decide +kernel
theorem dX0_offer_77 : decode cX0_offer 77 = .ok (.aload_n 0, 1) := by decide +kernel
theorem dX0_offer_78 : decode cX0_offer 78 = .ok (.getfield 37, 3) := by decide +kernel
theorem dX0_offer_81 : decode cX0_offer 81 = .ok (.iload 4, 2) := by decide +kernel
theorem dX0_offer_83 : decode cX0_offer 83 = .ok (.iload 5, 2) := by decide +kernel
theorem dX0_offer_85 : decode cX0_offer 85 = .ok (.iadd, 1) := by decide +kernel
theorem dX0_offer_86 : decode cX0_offer 86 = .ok (.aload_n 0, 1) := by decide +kernel
theorem dX0_offer_87 : decode cX0_offer 87 = .ok (.getfield 37, 3) := by decide +kernel
theorem dX0_offer_90 : decode cX0_offer 90 = .ok (.iload 4, 2) := by decide +kernel
theorem dX0_offer_92 : decode cX0_offer 92 = .ok (.iload 5, 2) := by decide +kernel
theorem dX0_offer_94 : decode cX0_offer 94 = .ok (.iadd, 1) := by decide +kernel
theorem dX0_offer_95 : decode cX0_offer 95 = .ok (.iconst 1, 1) := by decide +kernel
theorem dX0_offer_96 : decode cX0_offer 96 = .ok (.isub, 1) := by decide +kernel
theorem dX0_offer_97 : decode cX0_offer 97 = .ok (.laload, 1) := by decide +kernel
theorem dX0_offer_98 : decode cX0_offer 98 = .ok (.lastore, 1) := by decide +kernel
theorem dX0_offer_99 : decode cX0_offer 99 = .ok (.iinc 5 (-1), 3) := by decide +kernel
theorem dX0_offer_102 : decode cX0_offer 102 = .ok (.goto (-47), 3) := by decide +kernel
theorem dX0_offer_105 : decode cX0_offer 105 = .ok (.aload_n 0, 1) := by decide +kernel
theorem dX0_offer_106 : decode cX0_offer 106 = .ok (.getfield 37, 3) := by decide +kernel
theorem dX0_offer_109 : decode cX0_offer 109 = .ok (.iload 4, 2) := by decide +kernel
theorem dX0_offer_111 : decode cX0_offer 111 = .ok (.iload 5, 2) := by decide +kernel
theorem dX0_offer_113 : decode cX0_offer 113 = .ok (.iadd, 1) := by decide +kernel
theorem dX0_offer_114 : decode cX0_offer 114 = .ok (.lload_n 2, 1) := by decide +kernel
theorem dX0_offer_115 : decode cX0_offer 115 = .ok (.lastore, 1) := by decide +kernel
theorem dX0_offer_116 : decode cX0_offer 116 = .ok (.iconst 1, 1) := by decide +kernel
theorem dX0_offer_117 : decode cX0_offer 117 = .ok (.ireturn, 1) := by decide +kernel
theorem dX0_listed_0 : decode cX0_listed 0 = .ok (.aload_n 0, 1) := by decide +kernel
theorem dX0_listed_1 : decode cX0_listed 1 = .ok (.getfield 40, 3) := by decide +kernel
theorem dX0_listed_4 : decode cX0_listed 4 = .ok (.ifCond .ne 7, 3) := by decide +kernel
theorem dX0_listed_7 : decode cX0_listed 7 = .ok (.iconst 0, 1) := by decide +kernel
theorem dX0_listed_8 : decode cX0_listed 8 = .ok (.goto 12, 3) := by decide +kernel
theorem dX0_listed_11 : decode cX0_listed 11 = .ok (.aload_n 0, 1) := by decide +kernel
theorem dX0_listed_12 : decode cX0_listed 12 = .ok (.getfield 33, 3) := by decide +kernel
theorem dX0_listed_15 : decode cX0_listed 15 = .ok (.aload_n 0, 1) := by decide +kernel
theorem dX0_listed_16 : decode cX0_listed 16 = .ok (.invokevirtual 123, 3) := by decide +kernel
theorem dX0_listed_19 : decode cX0_listed 19 = .ok (.iaload, 1) := by decide +kernel
theorem dX0_listed_20 : decode cX0_listed 20 = .ok (.ireturn, 1) := by decide +kernel
theorem dX0_countOfAll_0 : decode cX0_countOfAll 0 = .ok (.aload_n 0, 1) := by decide +kernel
theorem dX0_countOfAll_1 : decode cX0_countOfAll 1 = .ok (.getfield 40, 3) := by decide +kernel
theorem dX0_countOfAll_4 : decode cX0_countOfAll 4 = .ok (.ifCond .ne 7, 3) := by decide +kernel
theorem dX0_countOfAll_7 : decode cX0_countOfAll 7 = .ok (.lconst 0, 1) := by decide +kernel
theorem dX0_countOfAll_8 : decode cX0_countOfAll 8 = .ok (.goto 12, 3) := by decide +kernel
theorem dX0_countOfAll_11 : decode cX0_countOfAll 11 = .ok (.aload_n 0, 1) := by decide +kernel
theorem dX0_countOfAll_12 : decode cX0_countOfAll 12 = .ok (.getfield 29, 3) := by decide +kernel
theorem dX0_countOfAll_15 : decode cX0_countOfAll 15 = .ok (.aload_n 0, 1) := by decide +kernel
theorem dX0_countOfAll_16 : decode cX0_countOfAll 16 = .ok (.invokevirtual 123, 3) := by decide +kernel
theorem dX0_countOfAll_19 : decode cX0_countOfAll 19 = .ok (.laload, 1) := by decide +kernel
theorem dX0_countOfAll_20 : decode cX0_countOfAll 20 = .ok (.lreturn, 1) := by decide +kernel
theorem dX0_priceOfWhole_0 : decode cX0_priceOfWhole 0 = .ok (.aload_n 0, 1) := by decide +kernel
theorem dX0_priceOfWhole_1 : decode cX0_priceOfWhole 1 = .ok (.aload_n 0, 1) := by decide +kernel
theorem dX0_priceOfWhole_2 : decode cX0_priceOfWhole 2 = .ok (.getfield 12, 3) := by decide +kernel
theorem dX0_priceOfWhole_5 : decode cX0_priceOfWhole 5 = .ok (.getfield 89, 3) := by decide +kernel
theorem dX0_priceOfWhole_8 : decode cX0_priceOfWhole 8 = .ok (.iconst 0, 1) := by decide +kernel
theorem dX0_priceOfWhole_9 : decode cX0_priceOfWhole 9 = .ok (.iaload, 1) := by decide +kernel
theorem dX0_priceOfWhole_10 : decode cX0_priceOfWhole 10 = .ok (.iconst 0, 1) := by decide +kernel
theorem dX0_priceOfWhole_11 : decode cX0_priceOfWhole 11 = .ok (.aload_n 0, 1) := by decide +kernel
theorem dX0_priceOfWhole_12 : decode cX0_priceOfWhole 12 = .ok (.getfield 40, 3) := by decide +kernel
theorem dX0_priceOfWhole_15 : decode cX0_priceOfWhole 15 = .ok (.iconst 1, 1) := by decide +kernel
theorem dX0_priceOfWhole_16 : decode cX0_priceOfWhole 16 = .ok (.isub, 1) := by decide +kernel
theorem dX0_priceOfWhole_17 : decode cX0_priceOfWhole 17 = .ok (.iload_n 1, 1) := by decide +kernel
theorem dX0_priceOfWhole_18 : decode cX0_priceOfWhole 18 = .ok (.invokevirtual 105, 3) := by decide +kernel
theorem dX0_priceOfWhole_21 : decode cX0_priceOfWhole 21 = .ok (.ireturn, 1) := by decide +kernel
theorem dX0_wholeRow_0 : decode cX0_wholeRow 0 = .ok (.aload_n 0, 1) := by decide +kernel
theorem dX0_wholeRow_1 : decode cX0_wholeRow 1 = .ok (.getfield 12, 3) := by decide +kernel
theorem dX0_wholeRow_4 : decode cX0_wholeRow 4 = .ok (.getfield 89, 3) := by decide +kernel
theorem dX0_wholeRow_7 : decode cX0_wholeRow 7 = .ok (.iconst 0, 1) := by decide +kernel
theorem dX0_wholeRow_8 : decode cX0_wholeRow 8 = .ok (.iaload, 1) := by decide +kernel
theorem dX0_wholeRow_9 : decode cX0_wholeRow 9 = .ok (.iconst 0, 1) := by decide +kernel
theorem dX0_wholeRow_10 : decode cX0_wholeRow 10 = .ok (.aload_n 0, 1) := by decide +kernel
theorem dX0_wholeRow_11 : decode cX0_wholeRow 11 = .ok (.getfield 40, 3) := by decide +kernel
theorem dX0_wholeRow_14 : decode cX0_wholeRow 14 = .ok (.iconst 1, 1) := by decide +kernel
theorem dX0_wholeRow_15 : decode cX0_wholeRow 15 = .ok (.isub, 1) := by decide +kernel
theorem dX0_wholeRow_16 : decode cX0_wholeRow 16 = .ok (.invokestatic 68, 3) := by decide +kernel
theorem dX0_wholeRow_19 : decode cX0_wholeRow 19 = .ok (.ireturn, 1) := by decide +kernel
theorem dX0_pitchAt_0 : decode cX0_pitchAt 0 = .ok (.aload_n 0, 1) := by decide +kernel
theorem dX0_pitchAt_1 : decode cX0_pitchAt 1 = .ok (.iload_n 1, 1) := by decide +kernel
theorem dX0_pitchAt_2 : decode cX0_pitchAt 2 = .ok (.invokevirtual 127, 3) := by decide +kernel
theorem dX0_pitchAt_5 : decode cX0_pitchAt 5 = .ok (.ifCond .eq 12, 3) := by decide +kernel
theorem dX0_pitchAt_8 : decode cX0_pitchAt 8 = .ok (.aload_n 0, 1) := by decide +kernel
theorem dX0_pitchAt_9 : decode cX0_pitchAt 9 = .ok (.getfield 25, 3) := by decide +kernel
theorem dX0_pitchAt_12 : decode cX0_pitchAt 12 = .ok (.iload_n 1, 1) := by decide +kernel
theorem dX0_pitchAt_13 : decode cX0_pitchAt 13 = .ok (.iaload, 1) := by decide +kernel
theorem dX0_pitchAt_14 : decode cX0_pitchAt 14 = .ok (.goto 4, 3) := by decide +kernel
theorem dX0_pitchAt_17 : decode cX0_pitchAt 17 = .ok (.iconst (-1), 1) := by decide +kernel
theorem dX0_pitchAt_18 : decode cX0_pitchAt 18 = .ok (.ireturn, 1) := by decide +kernel
theorem dX0_hasSlot_0 : decode cX0_hasSlot 0 = .ok (.iload_n 1, 1) := by decide +kernel
theorem dX0_hasSlot_1 : decode cX0_hasSlot 1 = .ok (.ifCond .lt 15, 3) := by decide +kernel
theorem dX0_hasSlot_4 : decode cX0_hasSlot 4 = .ok (.iload_n 1, 1) := by decide +kernel
theorem dX0_hasSlot_5 : decode cX0_hasSlot 5 = .ok (.aload_n 0, 1) := by decide +kernel
theorem dX0_hasSlot_6 : decode cX0_hasSlot 6 = .ok (.getfield 40, 3) := by decide +kernel
theorem dX0_hasSlot_9 : decode cX0_hasSlot 9 = .ok (.if_icmp .ge 7, 3) := by decide +kernel
theorem dX0_hasSlot_12 : decode cX0_hasSlot 12 = .ok (.iconst 1, 1) := by decide +kernel
theorem dX0_hasSlot_13 : decode cX0_hasSlot 13 = .ok (.goto 4, 3) := by decide +kernel
theorem dX0_hasSlot_16 : decode cX0_hasSlot 16 = .ok (.iconst 0, 1) := by decide +kernel
theorem dX0_hasSlot_17 : decode cX0_hasSlot 17 = .ok (.ireturn, 1) := by decide +kernel
theorem dX0_sizeOf_0 : decode cX0_sizeOf 0 = .ok (.iload_n 1, 1) := by decide +kernel
theorem dX0_sizeOf_1 : decode cX0_sizeOf 1 = .ok (.bipush 26, 2) := by decide +kernel
theorem dX0_sizeOf_3 : decode cX0_sizeOf 3 = .ok (.if_icmp .ge 15, 3) := by decide +kernel
theorem dX0_sizeOf_6 : decode cX0_sizeOf 6 = .ok (.aload_n 0, 1) := by decide +kernel
theorem dX0_sizeOf_7 : decode cX0_sizeOf 7 = .ok (.getfield 33, 3) := by decide +kernel
theorem dX0_sizeOf_10 : decode cX0_sizeOf 10 = .ok (.iload_n 1, 1) := by decide +kernel
theorem dX0_sizeOf_11 : decode cX0_sizeOf 11 = .ok (.iload_n 2, 1) := by decide +kernel
theorem dX0_sizeOf_12 : decode cX0_sizeOf 12 = .ok (.iload_n 3, 1) := by decide +kernel
theorem dX0_sizeOf_13 : decode cX0_sizeOf 13 = .ok (.invokestatic 68, 3) := by decide +kernel
theorem dX0_sizeOf_16 : decode cX0_sizeOf 16 = .ok (.iaload, 1) := by decide +kernel
theorem dX0_sizeOf_17 : decode cX0_sizeOf 17 = .ok (.ireturn, 1) := by decide +kernel
theorem dX0_sizeOf_18 : decode cX0_sizeOf 18 = .ok (.iload_n 2, 1) := by decide +kernel
theorem dX0_sizeOf_19 : decode cX0_sizeOf 19 = .ok (.iload_n 3, 1) := by decide +kernel
theorem dX0_sizeOf_20 : decode cX0_sizeOf 20 = .ok (.if_icmp .ne 17, 3) := by decide +kernel
theorem dX0_sizeOf_23 : decode cX0_sizeOf 23 = .ok (.aload_n 0, 1) := by decide +kernel
theorem dX0_sizeOf_24 : decode cX0_sizeOf 24 = .ok (.iload_n 1, 1) := by decide +kernel
theorem dX0_sizeOf_25 : decode cX0_sizeOf 25 = .ok (.iload_n 2, 1) := by decide +kernel
theorem dX0_sizeOf_26 : decode cX0_sizeOf 26 = .ok (.invokevirtual 131, 3) := by decide +kernel
theorem dX0_sizeOf_29 : decode cX0_sizeOf 29 = .ok (.iconst (-1), 1) := by decide +kernel
theorem dX0_sizeOf_30 : decode cX0_sizeOf 30 = .ok (.if_icmp .eq 7, 3) := by decide +kernel
theorem dX0_sizeOf_33 : decode cX0_sizeOf 33 = .ok (.iconst 1, 1) := by decide +kernel
theorem dX0_sizeOf_34 : decode cX0_sizeOf 34 = .ok (.goto 4, 3) := by decide +kernel
theorem dX0_sizeOf_37 : decode cX0_sizeOf 37 = .ok (.iconst 0, 1) := by decide +kernel
theorem dX0_sizeOf_38 : decode cX0_sizeOf 38 = .ok (.ireturn, 1) := by decide +kernel
theorem dX0_countOf_0 : decode cX0_countOf 0 = .ok (.iload_n 1, 1) := by decide +kernel
theorem dX0_countOf_1 : decode cX0_countOf 1 = .ok (.bipush 26, 2) := by decide +kernel
theorem dX0_countOf_3 : decode cX0_countOf 3 = .ok (.if_icmp .ge 17, 3) := by decide +kernel
theorem dX0_countOf_6 : decode cX0_countOf 6 = .ok (.aload_n 0, 1) := by decide +kernel
theorem dX0_countOf_7 : decode cX0_countOf 7 = .ok (.getfield 29, 3) := by decide +kernel
theorem dX0_countOf_10 : decode cX0_countOf 10 = .ok (.iload_n 1, 1) := by decide +kernel
theorem dX0_countOf_11 : decode cX0_countOf 11 = .ok (.iload_n 2, 1) := by decide +kernel
theorem dX0_countOf_12 : decode cX0_countOf 12 = .ok (.iload_n 3, 1) := by decide +kernel
theorem dX0_countOf_13 : decode cX0_countOf 13 = .ok (.invokestatic 68, 3) := by decide +kernel
theorem dX0_countOf_16 : decode cX0_countOf 16 = .ok (.laload, 1) := by decide +kernel
theorem dX0_countOf_17 : decode cX0_countOf 17 = .ok (.goto 11, 3) := by decide +kernel
theorem dX0_countOf_20 : decode cX0_countOf 20 = .ok (.aload_n 0, 1) := by decide +kernel
theorem dX0_countOf_21 : decode cX0_countOf 21 = .ok (.iload_n 1, 1) := by decide +kernel
theorem dX0_countOf_22 : decode cX0_countOf 22 = .ok (.iload_n 2, 1) := by decide +kernel
theorem dX0_countOf_23 : decode cX0_countOf 23 = .ok (.iload_n 3, 1) := by decide +kernel
theorem dX0_countOf_24 : decode cX0_countOf 24 = .ok (.invokevirtual 95, 3) := by decide +kernel
theorem dX0_countOf_27 : decode cX0_countOf 27 = .ok (.i2l, 1) := by decide +kernel
theorem dX0_countOf_28 : decode cX0_countOf 28 = .ok (.lreturn, 1) := by decide +kernel
theorem dX0_priceOf_0 : decode cX0_priceOf 0 = .ok (.iload_n 1, 1) := by decide +kernel
theorem dX0_priceOf_1 : decode cX0_priceOf 1 = .ok (.bipush 26, 2) := by decide +kernel
theorem dX0_priceOf_3 : decode cX0_priceOf 3 = .ok (.if_icmp .ge 17, 3) := by decide +kernel
theorem dX0_priceOf_6 : decode cX0_priceOf 6 = .ok (.aload_n 0, 1) := by decide +kernel
theorem dX0_priceOf_7 : decode cX0_priceOf 7 = .ok (.iload_n 1, 1) := by decide +kernel
theorem dX0_priceOf_8 : decode cX0_priceOf 8 = .ok (.iload_n 2, 1) := by decide +kernel
theorem dX0_priceOf_9 : decode cX0_priceOf 9 = .ok (.iload_n 3, 1) := by decide +kernel
theorem dX0_priceOf_10 : decode cX0_priceOf 10 = .ok (.iload 4, 2) := by decide +kernel
theorem dX0_priceOf_12 : decode cX0_priceOf 12 = .ok (.invokevirtual 134, 3) := by decide +kernel
theorem dX0_priceOf_15 : decode cX0_priceOf 15 = .ok (.bipush 21, 2) := by decide +kernel
theorem dX0_priceOf_17 : decode cX0_priceOf 17 = .ok (.lushr, 1) := by decide +kernel
theorem dX0_priceOf_18 : decode cX0_priceOf 18 = .ok (.l2i, 1) := by decide +kernel
theorem dX0_priceOf_19 : decode cX0_priceOf 19 = .ok (.ireturn, 1) := by decide +kernel
theorem dX0_priceOf_20 : decode cX0_priceOf 20 = .ok (.aload_n 0, 1) := by decide +kernel
theorem dX0_priceOf_21 : decode cX0_priceOf 21 = .ok (.getfield 21, 3) := by decide +kernel
theorem dX0_priceOf_24 : decode cX0_priceOf 24 = .ok (.getfield 138, 3) := by decide +kernel
theorem dX0_priceOf_27 : decode cX0_priceOf 27 = .ok (.iload_n 2, 1) := by decide +kernel
theorem dX0_priceOf_28 : decode cX0_priceOf 28 = .ok (.bipush 70, 2) := by decide +kernel
theorem dX0_priceOf_30 : decode cX0_priceOf 30 = .ok (.imul, 1) := by decide +kernel
theorem dX0_priceOf_31 : decode cX0_priceOf 31 = .ok (.iload_n 1, 1) := by decide +kernel
theorem dX0_priceOf_32 : decode cX0_priceOf 32 = .ok (.iadd, 1) := by decide +kernel
theorem dX0_priceOf_33 : decode cX0_priceOf 33 = .ok (.bipush 26, 2) := by decide +kernel
theorem dX0_priceOf_35 : decode cX0_priceOf 35 = .ok (.isub, 1) := by decide +kernel
theorem dX0_priceOf_36 : decode cX0_priceOf 36 = .ok (.iaload, 1) := by decide +kernel
theorem dX0_priceOf_37 : decode cX0_priceOf 37 = .ok (.ireturn, 1) := by decide +kernel
theorem dX0_chordOf_0 : decode cX0_chordOf 0 = .ok (.aload_n 0, 1) := by decide +kernel
theorem dX0_chordOf_1 : decode cX0_chordOf 1 = .ok (.getfield 21, 3) := by decide +kernel
theorem dX0_chordOf_4 : decode cX0_chordOf 4 = .ok (.getfield 141, 3) := by decide +kernel
theorem dX0_chordOf_7 : decode cX0_chordOf 7 = .ok (.iload_n 2, 1) := by decide +kernel
theorem dX0_chordOf_8 : decode cX0_chordOf 8 = .ok (.bipush 70, 2) := by decide +kernel
theorem dX0_chordOf_10 : decode cX0_chordOf 10 = .ok (.imul, 1) := by decide +kernel
theorem dX0_chordOf_11 : decode cX0_chordOf 11 = .ok (.iload_n 1, 1) := by decide +kernel
theorem dX0_chordOf_12 : decode cX0_chordOf 12 = .ok (.iadd, 1) := by decide +kernel
theorem dX0_chordOf_13 : decode cX0_chordOf 13 = .ok (.bipush 26, 2) := by decide +kernel
theorem dX0_chordOf_15 : decode cX0_chordOf 15 = .ok (.isub, 1) := by decide +kernel
theorem dX0_chordOf_16 : decode cX0_chordOf 16 = .ok (.iaload, 1) := by decide +kernel
theorem dX0_chordOf_17 : decode cX0_chordOf 17 = .ok (.ireturn, 1) := by decide +kernel
theorem dX0_entryAt_0 : decode cX0_entryAt 0 = .ok (.aload_n 0, 1) := by decide +kernel
theorem dX0_entryAt_1 : decode cX0_entryAt 1 = .ok (.getfield 37, 3) := by decide +kernel
theorem dX0_entryAt_4 : decode cX0_entryAt 4 = .ok (.iload_n 1, 1) := by decide +kernel
theorem dX0_entryAt_5 : decode cX0_entryAt 5 = .ok (.iload_n 2, 1) := by decide +kernel
theorem dX0_entryAt_6 : decode cX0_entryAt 6 = .ok (.iload_n 3, 1) := by decide +kernel
theorem dX0_entryAt_7 : decode cX0_entryAt 7 = .ok (.invokestatic 68, 3) := by decide +kernel
theorem dX0_entryAt_10 : decode cX0_entryAt 10 = .ok (.bipush 30, 2) := by decide +kernel
theorem dX0_entryAt_12 : decode cX0_entryAt 12 = .ok (.imul, 1) := by decide +kernel
theorem dX0_entryAt_13 : decode cX0_entryAt 13 = .ok (.iload 4, 2) := by decide +kernel
theorem dX0_entryAt_15 : decode cX0_entryAt 15 = .ok (.iadd, 1) := by decide +kernel
theorem dX0_entryAt_16 : decode cX0_entryAt 16 = .ok (.laload, 1) := by decide +kernel
theorem dX0_entryAt_17 : decode cX0_entryAt 17 = .ok (.lreturn, 1) := by decide +kernel
theorem dX0_rowOf_0 : decode cX0_rowOf 0 = .ok (.iload_n 2, 1) := by decide +kernel
theorem dX0_rowOf_1 : decode cX0_rowOf 1 = .ok (.iload_n 2, 1) := by decide +kernel
theorem dX0_rowOf_2 : decode cX0_rowOf 2 = .ok (.iconst 1, 1) := by decide +kernel
theorem dX0_rowOf_3 : decode cX0_rowOf 3 = .ok (.iadd, 1) := by decide +kernel
theorem dX0_rowOf_4 : decode cX0_rowOf 4 = .ok (.imul, 1) := by decide +kernel
theorem dX0_rowOf_5 : decode cX0_rowOf 5 = .ok (.iconst 2, 1) := by decide +kernel
theorem dX0_rowOf_6 : decode cX0_rowOf 6 = .ok (.idiv, 1) := by decide +kernel
theorem dX0_rowOf_7 : decode cX0_rowOf 7 = .ok (.iload_n 1, 1) := by decide +kernel
theorem dX0_rowOf_8 : decode cX0_rowOf 8 = .ok (.iadd, 1) := by decide +kernel
theorem dX0_rowOf_9 : decode cX0_rowOf 9 = .ok (.bipush 26, 2) := by decide +kernel
theorem dX0_rowOf_11 : decode cX0_rowOf 11 = .ok (.imul, 1) := by decide +kernel
theorem dX0_rowOf_12 : decode cX0_rowOf 12 = .ok (.iload_n 0, 1) := by decide +kernel
theorem dX0_rowOf_13 : decode cX0_rowOf 13 = .ok (.iadd, 1) := by decide +kernel
theorem dX0_rowOf_14 : decode cX0_rowOf 14 = .ok (.ireturn, 1) := by decide +kernel
theorem dX0_entryOf_0 : decode cX0_entryOf 0 = .ok (.iload_n 1, 1) := by decide +kernel
theorem dX0_entryOf_1 : decode cX0_entryOf 1 = .ok (.bipush 15, 2) := by decide +kernel
theorem dX0_entryOf_3 : decode cX0_entryOf 3 = .ok (.ishl, 1) := by decide +kernel
theorem dX0_entryOf_4 : decode cX0_entryOf 4 = .ok (.iload_n 2, 1) := by decide +kernel
theorem dX0_entryOf_5 : decode cX0_entryOf 5 = .ok (.bipush 10, 2) := by decide +kernel
theorem dX0_entryOf_7 : decode cX0_entryOf 7 = .ok (.ishl, 1) := by decide +kernel
theorem dX0_entryOf_8 : decode cX0_entryOf 8 = .ok (.ior, 1) := by decide +kernel
theorem dX0_entryOf_9 : decode cX0_entryOf 9 = .ok (.iload_n 3, 1) := by decide +kernel
theorem dX0_entryOf_10 : decode cX0_entryOf 10 = .ok (.iconst 5, 1) := by decide +kernel
theorem dX0_entryOf_11 : decode cX0_entryOf 11 = .ok (.ishl, 1) := by decide +kernel
theorem dX0_entryOf_12 : decode cX0_entryOf 12 = .ok (.ior, 1) := by decide +kernel
theorem dX0_entryOf_13 : decode cX0_entryOf 13 = .ok (.iload 4, 2) := by decide +kernel
theorem dX0_entryOf_15 : decode cX0_entryOf 15 = .ok (.ior, 1) := by decide +kernel
theorem dX0_entryOf_16 : decode cX0_entryOf 16 = .ok (.i2l, 1) := by decide +kernel
theorem dX0_entryOf_17 : decode cX0_entryOf 17 = .ok (.lstore 5, 2) := by decide +kernel
theorem dX0_entryOf_19 : decode cX0_entryOf 19 = .ok (.iload_n 0, 1) := by decide +kernel
theorem dX0_entryOf_20 : decode cX0_entryOf 20 = .ok (.i2l, 1) := by decide +kernel
theorem dX0_entryOf_21 : decode cX0_entryOf 21 = .ok (.bipush 21, 2) := by decide +kernel
theorem dX0_entryOf_23 : decode cX0_entryOf 23 = .ok (.lshl, 1) := by decide +kernel
theorem dX0_entryOf_24 : decode cX0_entryOf 24 = .ok (.lload 5, 2) := by decide +kernel
theorem dX0_entryOf_26 : decode cX0_entryOf 26 = .ok (.lor, 1) := by decide +kernel
theorem dX0_entryOf_27 : decode cX0_entryOf 27 = .ok (.lreturn, 1) := by decide +kernel
theorem dX0_ruleOf_0 : decode cX0_ruleOf 0 = .ok (.lload_n 0, 1) := by decide +kernel
theorem dX0_ruleOf_1 : decode cX0_ruleOf 1 = .ok (.bipush 15, 2) := by decide +kernel
theorem dX0_ruleOf_3 : decode cX0_ruleOf 3 = .ok (.lushr, 1) := by decide +kernel
theorem dX0_ruleOf_4 : decode cX0_ruleOf 4 = .ok (.l2i, 1) := by decide +kernel
theorem dX0_ruleOf_5 : decode cX0_ruleOf 5 = .ok (.bipush 63, 2) := by decide +kernel
theorem dX0_ruleOf_7 : decode cX0_ruleOf 7 = .ok (.iand, 1) := by decide +kernel
theorem dX0_ruleOf_8 : decode cX0_ruleOf 8 = .ok (.ireturn, 1) := by decide +kernel
theorem dX0_partOf_0 : decode cX0_partOf 0 = .ok (.lload_n 0, 1) := by decide +kernel
theorem dX0_partOf_1 : decode cX0_partOf 1 = .ok (.bipush 10, 2) := by decide +kernel
theorem dX0_partOf_3 : decode cX0_partOf 3 = .ok (.lushr, 1) := by decide +kernel
theorem dX0_partOf_4 : decode cX0_partOf 4 = .ok (.l2i, 1) := by decide +kernel
theorem dX0_partOf_5 : decode cX0_partOf 5 = .ok (.bipush 31, 2) := by decide +kernel
theorem dX0_partOf_7 : decode cX0_partOf 7 = .ok (.iand, 1) := by decide +kernel
theorem dX0_partOf_8 : decode cX0_partOf 8 = .ok (.ireturn, 1) := by decide +kernel
theorem dX0_rankOneOf_0 : decode cX0_rankOneOf 0 = .ok (.lload_n 0, 1) := by decide +kernel
theorem dX0_rankOneOf_1 : decode cX0_rankOneOf 1 = .ok (.iconst 5, 1) := by decide +kernel
theorem dX0_rankOneOf_2 : decode cX0_rankOneOf 2 = .ok (.lushr, 1) := by decide +kernel
theorem dX0_rankOneOf_3 : decode cX0_rankOneOf 3 = .ok (.l2i, 1) := by decide +kernel
theorem dX0_rankOneOf_4 : decode cX0_rankOneOf 4 = .ok (.bipush 31, 2) := by decide +kernel
theorem dX0_rankOneOf_6 : decode cX0_rankOneOf 6 = .ok (.iand, 1) := by decide +kernel
theorem dX0_rankOneOf_7 : decode cX0_rankOneOf 7 = .ok (.ireturn, 1) := by decide +kernel
theorem dX0_rankTwoOf_0 : decode cX0_rankTwoOf 0 = .ok (.lload_n 0, 1) := by decide +kernel
theorem dX0_rankTwoOf_1 : decode cX0_rankTwoOf 1 = .ok (.l2i, 1) := by decide +kernel
theorem dX0_rankTwoOf_2 : decode cX0_rankTwoOf 2 = .ok (.bipush 31, 2) := by decide +kernel
theorem dX0_rankTwoOf_4 : decode cX0_rankTwoOf 4 = .ok (.iand, 1) := by decide +kernel
theorem dX0_rankTwoOf_5 : decode cX0_rankTwoOf 5 = .ok (.ireturn, 1) := by decide +kernel
theorem dX1_init_0 : decode cX1_init 0 = .ok (.aload_n 0, 1) := by decide +kernel
theorem dX1_init_1 : decode cX1_init 1 = .ok (.invokespecial 3, 3) := by decide +kernel
theorem dX1_init_4 : decode cX1_init 4 = .ok (.aload_n 0, 1) := by decide +kernel
theorem dX1_init_5 : decode cX1_init 5 = .ok (.sipush 800, 3) := by decide +kernel
theorem dX1_init_8 : decode cX1_init 8 = .ok (.newarray .byte, 2) := by decide +kernel
theorem dX1_init_10 : decode cX1_init 10 = .ok (.putfield 9, 3) := by decide +kernel
theorem dX1_init_13 : decode cX1_init 13 = .ok (.aload_n 0, 1) := by decide +kernel
theorem dX1_init_14 : decode cX1_init 14 = .ok (.iconst 0, 1) := by decide +kernel
theorem dX1_init_15 : decode cX1_init 15 = .ok (.putfield 15, 3) := by decide +kernel
theorem dX1_init_18 : decode cX1_init 18 = .ok (.return_, 1) := by decide +kernel
theorem dX1_extend_0 : decode cX1_extend 0 = .ok (.iload_n 1, 1) := by decide +kernel
theorem dX1_extend_1 : decode cX1_extend 1 = .ok (.iconst 1, 1) := by decide +kernel
theorem dX1_extend_2 : decode cX1_extend 2 = .ok (.if_icmp .lt 21, 3) := by decide +kernel
theorem dX1_extend_5 : decode cX1_extend 5 = .ok (.iload_n 1, 1) := by decide +kernel
theorem dX1_extend_6 : decode cX1_extend 6 = .ok (.bipush 8, 2) := by decide +kernel
theorem dX1_extend_8 : decode cX1_extend 8 = .ok (.if_icmp .gt 15, 3) := by decide +kernel
theorem dX1_extend_11 : decode cX1_extend 11 = .ok (.aload_n 0, 1) := by decide +kernel
theorem dX1_extend_12 : decode cX1_extend 12 = .ok (.getfield 15, 3) := by decide +kernel
theorem dX1_extend_15 : decode cX1_extend 15 = .ok (.iload_n 1, 1) := by decide +kernel
theorem dX1_extend_16 : decode cX1_extend 16 = .ok (.iadd, 1) := by decide +kernel
theorem dX1_extend_17 : decode cX1_extend 17 = .ok (.sipush 800, 3) := by decide +kernel
theorem dX1_extend_20 : decode cX1_extend 20 = .ok (.if_icmp .le 5, 3) := by decide +kernel
theorem dX1_extend_23 : decode cX1_extend 23 = .ok (.iconst (-1), 1) := by decide +kernel
theorem dX1_extend_24 : decode cX1_extend 24 = .ok (.ireturn, 1) := by decide +kernel
theorem dX1_extend_25 : decode cX1_extend 25 = .ok (.iconst 0, 1) := by decide +kernel
theorem dX1_extend_26 : decode cX1_extend 26 = .ok (.istore 4, 2) := by decide +kernel
theorem dX1_extend_28 : decode cX1_extend 28 = .ok (.iload 4, 2) := by decide +kernel
theorem dX1_extend_30 : decode cX1_extend 30 = .ok (.iload_n 1, 1) := by decide +kernel
theorem dX1_extend_31 : decode cX1_extend 31 = .ok (.if_icmp .ge 30, 3) := by decide +kernel
theorem dX1_extend_34 : decode cX1_extend 34 = .ok (.aload_n 0, 1) := by decide +kernel
theorem dX1_extend_35 : decode cX1_extend 35 = .ok (.getfield 9, 3) := by decide +kernel
theorem dX1_extend_38 : decode cX1_extend 38 = .ok (.aload_n 0, 1) := by decide +kernel
theorem dX1_extend_39 : decode cX1_extend 39 = .ok (.getfield 15, 3) := by decide +kernel
theorem dX1_extend_42 : decode cX1_extend 42 = .ok (.iload 4, 2) := by decide +kernel
theorem dX1_extend_44 : decode cX1_extend 44 = .ok (.iadd, 1) := by decide +kernel
theorem dX1_extend_45 : decode cX1_extend 45 = .ok (.lload_n 2, 1) := by decide +kernel
theorem dX1_extend_46 : decode cX1_extend 46 = .ok (.bipush 8, 2) := by decide +kernel
theorem dX1_extend_48 : decode cX1_extend 48 = .ok (.iload 4, 2) := by decide +kernel
theorem dX1_extend_50 : decode cX1_extend 50 = .ok (.imul, 1) := by decide +kernel
theorem dX1_extend_51 : decode cX1_extend 51 = .ok (.lushr, 1) := by decide +kernel
theorem dX1_extend_52 : decode cX1_extend 52 = .ok (.l2i, 1) := by decide +kernel
theorem dX1_extend_53 : decode cX1_extend 53 = .ok (.i2b, 1) := by decide +kernel
theorem dX1_extend_54 : decode cX1_extend 54 = .ok (.bastore, 1) := by decide +kernel
theorem dX1_extend_55 : decode cX1_extend 55 = .ok (.iinc 4 1, 3) := by decide +kernel
theorem dX1_extend_58 : decode cX1_extend 58 = .ok (.goto (-30), 3) := by decide +kernel
theorem dX1_extend_61 : decode cX1_extend 61 = .ok (.aload_n 0, 1) := by decide +kernel
theorem dX1_extend_62 : decode cX1_extend 62 = .ok (.dup, 1) := by decide +kernel
theorem dX1_extend_63 : decode cX1_extend 63 = .ok (.getfield 15, 3) := by decide +kernel
theorem dX1_extend_66 : decode cX1_extend 66 = .ok (.iload_n 1, 1) := by decide +kernel
theorem dX1_extend_67 : decode cX1_extend 67 = .ok (.iadd, 1) := by decide +kernel
theorem dX1_extend_68 : decode cX1_extend 68 = .ok (.putfield 15, 3) := by decide +kernel
theorem dX1_extend_71 : decode cX1_extend 71 = .ok (.aload_n 0, 1) := by decide +kernel
theorem dX1_extend_72 : decode cX1_extend 72 = .ok (.getfield 15, 3) := by decide +kernel
theorem dX1_extend_75 : decode cX1_extend 75 = .ok (.ireturn, 1) := by decide +kernel
theorem dX1_octetAt_0 : decode cX1_octetAt 0 = .ok (.iload_n 1, 1) := by decide +kernel
theorem dX1_octetAt_1 : decode cX1_octetAt 1 = .ok (.ifCond .lt 24, 3) := by decide +kernel
theorem dX1_octetAt_4 : decode cX1_octetAt 4 = .ok (.iload_n 1, 1) := by decide +kernel
theorem dX1_octetAt_5 : decode cX1_octetAt 5 = .ok (.aload_n 0, 1) := by decide +kernel
theorem dX1_octetAt_6 : decode cX1_octetAt 6 = .ok (.getfield 15, 3) := by decide +kernel
theorem dX1_octetAt_9 : decode cX1_octetAt 9 = .ok (.if_icmp .ge 16, 3) := by decide +kernel
theorem dX1_octetAt_12 : decode cX1_octetAt 12 = .ok (.aload_n 0, 1) := by decide +kernel
theorem dX1_octetAt_13 : decode cX1_octetAt 13 = .ok (.getfield 9, 3) := by decide +kernel
theorem dX1_octetAt_16 : decode cX1_octetAt 16 = .ok (.iload_n 1, 1) := by decide +kernel
theorem dX1_octetAt_17 : decode cX1_octetAt 17 = .ok (.baload, 1) := by decide +kernel
theorem dX1_octetAt_18 : decode cX1_octetAt 18 = .ok (.sipush 255, 3) := by decide +kernel
theorem dX1_octetAt_21 : decode cX1_octetAt 21 = .ok (.iand, 1) := by decide +kernel
theorem dX1_octetAt_22 : decode cX1_octetAt 22 = .ok (.goto 4, 3) := by decide +kernel
theorem dX1_octetAt_25 : decode cX1_octetAt 25 = .ok (.iconst (-1), 1) := by decide +kernel
theorem dX1_octetAt_26 : decode cX1_octetAt 26 = .ok (.ireturn, 1) := by decide +kernel
theorem dX2_init_0 : decode cX2_init 0 = .ok (.aload_n 0, 1) := by decide +kernel
theorem dX2_init_1 : decode cX2_init 1 = .ok (.invokespecial 3, 3) := by decide +kernel
theorem dX2_init_4 : decode cX2_init 4 = .ok (.aload_n 0, 1) := by decide +kernel
theorem dX2_init_5 : decode cX2_init 5 = .ok (.bipush 60, 2) := by decide +kernel
theorem dX2_init_7 : decode cX2_init 7 = .ok (.newarray .int, 2) := by decide +kernel
theorem dX2_init_9 : decode cX2_init 9 = .ok (.putfield 9, 3) := by decide +kernel
theorem dX2_init_12 : decode cX2_init 12 = .ok (.aload_n 0, 1) := by decide +kernel
theorem dX2_init_13 : decode cX2_init 13 = .ok (.bipush 60, 2) := by decide +kernel
theorem dX2_init_15 : decode cX2_init 15 = .ok (.newarray .int, 2) := by decide +kernel
theorem dX2_init_17 : decode cX2_init 17 = .ok (.putfield 15, 3) := by decide +kernel
theorem dX2_init_20 : decode cX2_init 20 = .ok (.aload_n 0, 1) := by decide +kernel
theorem dX2_init_21 : decode cX2_init 21 = .ok (.bipush 60, 2) := by decide +kernel
theorem dX2_init_23 : decode cX2_init 23 = .ok (.newarray .int, 2) := by decide +kernel
theorem dX2_init_25 : decode cX2_init 25 = .ok (.putfield 18, 3) := by decide +kernel
theorem dX2_init_28 : decode cX2_init 28 = .ok (.aload_n 0, 1) := by decide +kernel
theorem dX2_init_29 : decode cX2_init 29 = .ok (.bipush 60, 2) := by decide +kernel
theorem dX2_init_31 : decode cX2_init 31 = .ok (.newarray .int, 2) := by decide +kernel
theorem dX2_init_33 : decode cX2_init 33 = .ok (.putfield 21, 3) := by decide +kernel
theorem dX2_init_36 : decode cX2_init 36 = .ok (.aload_n 0, 1) := by decide +kernel
theorem dX2_init_37 : decode cX2_init 37 = .ok (.bipush 60, 2) := by decide +kernel
theorem dX2_init_39 : decode cX2_init 39 = .ok (.newarray .int, 2) := by decide +kernel
theorem dX2_init_41 : decode cX2_init 41 = .ok (.putfield 24, 3) := by decide +kernel
theorem dX2_init_44 : decode cX2_init 44 = .ok (.aload_n 0, 1) := by decide +kernel
theorem dX2_init_45 : decode cX2_init 45 = .ok (.iconst 0, 1) := by decide +kernel
theorem dX2_init_46 : decode cX2_init 46 = .ok (.putfield 27, 3) := by decide +kernel
theorem dX2_init_49 : decode cX2_init 49 = .ok (.return_, 1) := by decide +kernel
theorem dX2_become_0 : decode cX2_become 0 = .ok (.aload_n 1, 1) := by decide +kernel
theorem dX2_become_1 : decode cX2_become 1 = .ok (.getfield 9, 3) := by decide +kernel
theorem dX2_become_4 : decode cX2_become 4 = .ok (.iconst 0, 1) := by decide +kernel
theorem dX2_become_5 : decode cX2_become 5 = .ok (.aload_n 0, 1) := by decide +kernel
theorem dX2_become_6 : decode cX2_become 6 = .ok (.getfield 9, 3) := by decide +kernel
theorem dX2_become_9 : decode cX2_become 9 = .ok (.iconst 0, 1) := by decide +kernel
theorem dX2_become_10 : decode cX2_become 10 = .ok (.bipush 60, 2) := by decide +kernel
theorem dX2_become_12 : decode cX2_become 12 = .ok (.invokestatic 31, 3) := by decide +kernel
theorem dX2_become_15 : decode cX2_become 15 = .ok (.aload_n 1, 1) := by decide +kernel
theorem dX2_become_16 : decode cX2_become 16 = .ok (.getfield 15, 3) := by decide +kernel
theorem dX2_become_19 : decode cX2_become 19 = .ok (.iconst 0, 1) := by decide +kernel
theorem dX2_become_20 : decode cX2_become 20 = .ok (.aload_n 0, 1) := by decide +kernel
theorem dX2_become_21 : decode cX2_become 21 = .ok (.getfield 15, 3) := by decide +kernel
theorem dX2_become_24 : decode cX2_become 24 = .ok (.iconst 0, 1) := by decide +kernel
theorem dX2_become_25 : decode cX2_become 25 = .ok (.bipush 60, 2) := by decide +kernel
theorem dX2_become_27 : decode cX2_become 27 = .ok (.invokestatic 31, 3) := by decide +kernel
theorem dX2_become_30 : decode cX2_become 30 = .ok (.aload_n 1, 1) := by decide +kernel
theorem dX2_become_31 : decode cX2_become 31 = .ok (.getfield 18, 3) := by decide +kernel
theorem dX2_become_34 : decode cX2_become 34 = .ok (.iconst 0, 1) := by decide +kernel
theorem dX2_become_35 : decode cX2_become 35 = .ok (.aload_n 0, 1) := by decide +kernel
theorem dX2_become_36 : decode cX2_become 36 = .ok (.getfield 18, 3) := by decide +kernel
theorem dX2_become_39 : decode cX2_become 39 = .ok (.iconst 0, 1) := by decide +kernel
theorem dX2_become_40 : decode cX2_become 40 = .ok (.bipush 60, 2) := by decide +kernel
theorem dX2_become_42 : decode cX2_become 42 = .ok (.invokestatic 31, 3) := by decide +kernel
theorem dX2_become_45 : decode cX2_become 45 = .ok (.aload_n 1, 1) := by decide +kernel
theorem dX2_become_46 : decode cX2_become 46 = .ok (.getfield 21, 3) := by decide +kernel
theorem dX2_become_49 : decode cX2_become 49 = .ok (.iconst 0, 1) := by decide +kernel
theorem dX2_become_50 : decode cX2_become 50 = .ok (.aload_n 0, 1) := by decide +kernel
theorem dX2_become_51 : decode cX2_become 51 = .ok (.getfield 21, 3) := by decide +kernel
theorem dX2_become_54 : decode cX2_become 54 = .ok (.iconst 0, 1) := by decide +kernel
theorem dX2_become_55 : decode cX2_become 55 = .ok (.bipush 60, 2) := by decide +kernel
theorem dX2_become_57 : decode cX2_become 57 = .ok (.invokestatic 31, 3) := by decide +kernel
theorem dX2_become_60 : decode cX2_become 60 = .ok (.aload_n 1, 1) := by decide +kernel
theorem dX2_become_61 : decode cX2_become 61 = .ok (.getfield 24, 3) := by decide +kernel
theorem dX2_become_64 : decode cX2_become 64 = .ok (.iconst 0, 1) := by decide +kernel
theorem dX2_become_65 : decode cX2_become 65 = .ok (.aload_n 0, 1) := by decide +kernel
theorem dX2_become_66 : decode cX2_become 66 = .ok (.getfield 24, 3) := by decide +kernel
theorem dX2_become_69 : decode cX2_become 69 = .ok (.iconst 0, 1) := by decide +kernel
theorem dX2_become_70 : decode cX2_become 70 = .ok (.bipush 60, 2) := by decide +kernel
theorem dX2_become_72 : decode cX2_become 72 = .ok (.invokestatic 31, 3) := by decide +kernel
theorem dX2_become_75 : decode cX2_become 75 = .ok (.aload_n 0, 1) := by decide +kernel
theorem dX2_become_76 : decode cX2_become 76 = .ok (.aload_n 1, 1) := by decide +kernel
theorem dX2_become_77 : decode cX2_become 77 = .ok (.getfield 27, 3) := by decide +kernel
theorem dX2_become_80 : decode cX2_become 80 = .ok (.putfield 27, 3) := by decide +kernel
theorem dX2_become_83 : decode cX2_become 83 = .ok (.return_, 1) := by decide +kernel
theorem dX2_renames_0 : decode cX2_renames 0 = .ok (.aload_n 0, 1) := by decide +kernel
theorem dX2_renames_1 : decode cX2_renames 1 = .ok (.getfield 18, 3) := by decide +kernel
theorem dX2_renames_4 : decode cX2_renames 4 = .ok (.iload_n 1, 1) := by decide +kernel
theorem dX2_renames_5 : decode cX2_renames 5 = .ok (.iaload, 1) := by decide +kernel
theorem dX2_renames_6 : decode cX2_renames 6 = .ok (.iconst (-1), 1) := by decide +kernel
theorem dX2_renames_7 : decode cX2_renames 7 = .ok (.if_icmp .ne 18, 3) := by decide +kernel
theorem dX2_renames_10 : decode cX2_renames 10 = .ok (.aload_n 0, 1) := by decide +kernel
theorem dX2_renames_11 : decode cX2_renames 11 = .ok (.getfield 15, 3) := by decide +kernel
theorem dX2_renames_14 : decode cX2_renames 14 = .ok (.iload_n 1, 1) := by decide +kernel
theorem dX2_renames_15 : decode cX2_renames 15 = .ok (.iaload, 1) := by decide +kernel
theorem dX2_renames_16 : decode cX2_renames 16 = .ok (.bipush 26, 2) := by decide +kernel
theorem dX2_renames_18 : decode cX2_renames 18 = .ok (.if_icmp .ge 7, 3) := by decide +kernel
theorem dX2_renames_21 : decode cX2_renames 21 = .ok (.iconst 1, 1) := by decide +kernel
theorem dX2_renames_22 : decode cX2_renames 22 = .ok (.goto 4, 3) := by decide +kernel
theorem dX2_renames_25 : decode cX2_renames 25 = .ok (.iconst 0, 1) := by decide +kernel
theorem dX2_renames_26 : decode cX2_renames 26 = .ok (.ireturn, 1) := by decide +kernel
theorem dX3_init_0 : decode cX3_init 0 = .ok (.aload_n 0, 1) := by decide +kernel
theorem dX3_init_1 : decode cX3_init 1 = .ok (.invokespecial 3, 3) := by decide +kernel
theorem dX3_init_4 : decode cX3_init 4 = .ok (.aload_n 0, 1) := by decide +kernel
theorem dX3_init_5 : decode cX3_init 5 = .ok (.iconst 0, 1) := by decide +kernel
theorem dX3_init_6 : decode cX3_init 6 = .ok (.putfield 9, 3) := by decide +kernel
theorem dX3_init_9 : decode cX3_init 9 = .ok (.aload_n 0, 1) := by decide +kernel
theorem dX3_init_10 : decode cX3_init 10 = .ok (.iconst 0, 1) := by decide +kernel
theorem dX3_init_11 : decode cX3_init 11 = .ok (.putfield 15, 3) := by decide +kernel
theorem dX3_init_14 : decode cX3_init 14 = .ok (.return_, 1) := by decide +kernel
theorem dX3_change_0 : decode cX3_change 0 = .ok (.iload_n 1, 1) := by decide +kernel
theorem dX3_change_1 : decode cX3_change 1 = .ok (.ifCond .lt 9, 3) := by decide +kernel
theorem dX3_change_4 : decode cX3_change 4 = .ok (.iload_n 1, 1) := by decide +kernel
theorem dX3_change_5 : decode cX3_change 5 = .ok (.bipush 12, 2) := by decide +kernel
theorem dX3_change_7 : decode cX3_change 7 = .ok (.if_icmp .lt 5, 3) := by decide +kernel
theorem dX3_change_10 : decode cX3_change 10 = .ok (.iconst 0, 1) := by decide +kernel
theorem dX3_change_11 : decode cX3_change 11 = .ok (.ireturn, 1) := by decide +kernel
theorem dX3_change_12 : decode cX3_change 12 = .ok (.aload_n 0, 1) := by decide +kernel
theorem dX3_change_13 : decode cX3_change 13 = .ok (.iload_n 1, 1) := by decide +kernel
theorem dX3_change_14 : decode cX3_change 14 = .ok (.putfield 9, 3) := by decide +kernel
theorem dX3_change_17 : decode cX3_change 17 = .ok (.aload_n 0, 1) := by decide +kernel
theorem dX3_change_18 : decode cX3_change 18 = .ok (.iload_n 2, 1) := by decide +kernel
theorem dX3_change_19 : decode cX3_change 19 = .ok (.putfield 15, 3) := by decide +kernel
theorem dX3_change_22 : decode cX3_change 22 = .ok (.iconst 1, 1) := by decide +kernel
theorem dX3_change_23 : decode cX3_change 23 = .ok (.ireturn, 1) := by decide +kernel
theorem dX3_rootOf_0 : decode cX3_rootOf 0 = .ok (.iload_n 1, 1) := by decide +kernel
theorem dX3_rootOf_1 : decode cX3_rootOf 1 = .ok (.ifCond .lt 9, 3) := by decide +kernel
theorem dX3_rootOf_4 : decode cX3_rootOf 4 = .ok (.iload_n 1, 1) := by decide +kernel
theorem dX3_rootOf_5 : decode cX3_rootOf 5 = .ok (.bipush 7, 2) := by decide +kernel
theorem dX3_rootOf_7 : decode cX3_rootOf 7 = .ok (.if_icmp .lt 5, 3) := by decide +kernel
theorem dX3_rootOf_10 : decode cX3_rootOf 10 = .ok (.iconst (-1), 1) := by decide +kernel
theorem dX3_rootOf_11 : decode cX3_rootOf 11 = .ok (.ireturn, 1) := by decide +kernel
theorem dX3_rootOf_12 : decode cX3_rootOf 12 = .ok (.aload_n 0, 1) := by decide +kernel
theorem dX3_rootOf_13 : decode cX3_rootOf 13 = .ok (.getfield 9, 3) := by decide +kernel
theorem dX3_rootOf_16 : decode cX3_rootOf 16 = .ok (.aload_n 0, 1) := by decide +kernel
theorem dX3_rootOf_17 : decode cX3_rootOf 17 = .ok (.getfield 15, 3) := by decide +kernel
theorem dX3_rootOf_20 : decode cX3_rootOf 20 = .ok (.ifCond .eq 11, 3) := by decide +kernel
theorem dX3_rootOf_23 : decode cX3_rootOf 23 = .ok (.getstatic 19, 3) := by decide +kernel
theorem dX3_rootOf_26 : decode cX3_rootOf 26 = .ok (.iload_n 1, 1) := by decide +kernel
theorem dX3_rootOf_27 : decode cX3_rootOf 27 = .ok (.iaload, 1) := by decide +kernel
theorem dX3_rootOf_28 : decode cX3_rootOf 28 = .ok (.goto 8, 3) := by decide +kernel
theorem dX3_rootOf_31 : decode cX3_rootOf 31 = .ok (.getstatic 23, 3) := by decide +kernel
theorem dX3_rootOf_34 : decode cX3_rootOf 34 = .ok (.iload_n 1, 1) := by decide +kernel
theorem dX3_rootOf_35 : decode cX3_rootOf 35 = .ok (.iaload, 1) := by decide +kernel
theorem dX3_rootOf_36 : decode cX3_rootOf 36 = .ok (.iadd, 1) := by decide +kernel
theorem dX3_rootOf_37 : decode cX3_rootOf 37 = .ok (.bipush 12, 2) := by decide +kernel
theorem dX3_rootOf_39 : decode cX3_rootOf 39 = .ok (.irem, 1) := by decide +kernel
theorem dX3_rootOf_40 : decode cX3_rootOf 40 = .ok (.ireturn, 1) := by decide +kernel
theorem dX4_init_0 : decode cX4_init 0 = .ok (.aload_n 0, 1) := by decide +kernel
theorem dX4_init_1 : decode cX4_init 1 = .ok (.invokespecial 3, 3) := by decide +kernel
theorem dX4_init_4 : decode cX4_init 4 = .ok (.aload_n 0, 1) := by decide +kernel
theorem dX4_init_5 : decode cX4_init 5 = .ok (.new 9, 3) := by decide +kernel
theorem dX4_init_8 : decode cX4_init 8 = .ok (.dup, 1) := by decide +kernel
theorem dX4_init_9 : decode cX4_init 9 = .ok (.invokespecial 11, 3) := by decide +kernel
theorem dX4_init_12 : decode cX4_init 12 = .ok (.putfield 12, 3) := by decide +kernel
theorem dX4_init_15 : decode cX4_init 15 = .ok (.aload_n 0, 1) := by decide +kernel
theorem dX4_init_16 : decode cX4_init 16 = .ok (.bipush 60, 2) := by decide +kernel
theorem dX4_init_18 : decode cX4_init 18 = .ok (.newarray .int, 2) := by decide +kernel
theorem dX4_init_20 : decode cX4_init 20 = .ok (.putfield 18, 3) := by decide +kernel
theorem dX4_init_23 : decode cX4_init 23 = .ok (.aload_n 0, 1) := by decide +kernel
theorem dX4_init_24 : decode cX4_init 24 = .ok (.bipush 26, 2) := by decide +kernel
theorem dX4_init_26 : decode cX4_init 26 = .ok (.newarray .int, 2) := by decide +kernel
theorem dX4_init_28 : decode cX4_init 28 = .ok (.putfield 22, 3) := by decide +kernel
theorem dX4_init_31 : decode cX4_init 31 = .ok (.aload_n 0, 1) := by decide +kernel
theorem dX4_init_32 : decode cX4_init 32 = .ok (.iconst 0, 1) := by decide +kernel
theorem dX4_init_33 : decode cX4_init 33 = .ok (.putfield 25, 3) := by decide +kernel
theorem dX4_init_36 : decode cX4_init 36 = .ok (.return_, 1) := by decide +kernel
theorem dX4_readAll_0 : decode cX4_readAll 0 = .ok (.aload_n 0, 1) := by decide +kernel
theorem dX4_readAll_1 : decode cX4_readAll 1 = .ok (.iconst 0, 1) := by decide +kernel
theorem dX4_readAll_2 : decode cX4_readAll 2 = .ok (.putfield 25, 3) := by decide +kernel
theorem dX4_readAll_5 : decode cX4_readAll 5 = .ok (.aload_n 0, 1) := by decide +kernel
theorem dX4_readAll_6 : decode cX4_readAll 6 = .ok (.getfield 12, 3) := by decide +kernel
theorem dX4_readAll_9 : decode cX4_readAll 9 = .ok (.iconst 0, 1) := by decide +kernel
theorem dX4_readAll_10 : decode cX4_readAll 10 = .ok (.putfield 29, 3) := by decide +kernel
theorem dX4_readAll_13 : decode cX4_readAll 13 = .ok (.iconst 0, 1) := by decide +kernel
theorem dX4_readAll_14 : decode cX4_readAll 14 = .ok (.istore_n 2, 1) := by decide +kernel
theorem dX4_readAll_15 : decode cX4_readAll 15 = .ok (.iload_n 2, 1) := by decide +kernel
theorem dX4_readAll_16 : decode cX4_readAll 16 = .ok (.bipush 60, 2) := by decide +kernel
theorem dX4_readAll_18 : decode cX4_readAll 18 = .ok (.if_icmp .gt 38, 3) := by decide +kernel
theorem dX4_readAll_21 : decode cX4_readAll 21 = .ok (.aload_n 0, 1) := by decide +kernel
theorem dX4_readAll_22 : decode cX4_readAll 22 = .ok (.aload_n 1, 1) := by decide +kernel
theorem dX4_readAll_23 : decode cX4_readAll 23 = .ok (.invokevirtual 32, 3) := by decide +kernel
theorem dX4_readAll_26 : decode cX4_readAll 26 = .ok (.iconst (-1), 1) := by decide +kernel
theorem dX4_readAll_27 : decode cX4_readAll 27 = .ok (.if_icmp .ne 10, 3) := by decide +kernel
theorem dX4_readAll_30 : decode cX4_readAll 30 = .ok (.iload_n 2, 1) := by decide +kernel
theorem dX4_readAll_31 : decode cX4_readAll 31 = .ok (.ifCond .le 6, 3) := by decide +kernel
theorem dX4_readAll_34 : decode cX4_readAll 34 = .ok (.goto 22, 3) := by decide +kernel
theorem dX4_readAll_37 : decode cX4_readAll 37 = .ok (.aload_n 0, 1) := by decide +kernel
theorem dX4_readAll_38 : decode cX4_readAll 38 = .ok (.aload_n 1, 1) := by decide +kernel
theorem dX4_readAll_39 : decode cX4_readAll 39 = .ok (.invokevirtual 36, 3) := by decide +kernel
theorem dX4_readAll_42 : decode cX4_readAll 42 = .ok (.ifCond .ne 8, 3) := by decide +kernel
theorem dX4_readAll_45 : decode cX4_readAll 45 = .ok (.aload_n 0, 1) := by decide +kernel
theorem dX4_readAll_46 : decode cX4_readAll 46 = .ok (.getfield 25, 3) := by decide +kernel
theorem dX4_readAll_49 : decode cX4_readAll 49 = .ok (.ireturn, 1) := by decide +kernel
theorem dX4_readAll_50 : decode cX4_readAll 50 = .ok (.iinc 2 1, 3) := by decide +kernel
theorem dX4_readAll_53 : decode cX4_readAll 53 = .ok (.goto (-38), 3) := by decide +kernel
theorem dX4_readAll_56 : decode cX4_readAll 56 = .ok (.aload_n 0, 1) := by decide +kernel
theorem dX4_readAll_57 : decode cX4_readAll 57 = .ok (.invokevirtual 40, 3) := by decide +kernel
theorem dX4_readAll_60 : decode cX4_readAll 60 = .ok (.aload_n 0, 1) := by decide +kernel
theorem dX4_readAll_61 : decode cX4_readAll 61 = .ok (.invokevirtual 43, 3) := by decide +kernel
theorem dX4_readAll_64 : decode cX4_readAll 64 = .ok (.istore_n 2, 1) := by decide +kernel
theorem dX4_readAll_65 : decode cX4_readAll 65 = .ok (.iload_n 2, 1) := by decide +kernel
theorem dX4_readAll_66 : decode cX4_readAll 66 = .ok (.iconst (-1), 1) := by decide +kernel
theorem dX4_readAll_67 : decode cX4_readAll 67 = .ok (.if_icmp .ne 7, 3) := by decide +kernel
theorem dX4_readAll_70 : decode cX4_readAll 70 = .ok (.aload_n 0, 1) := by decide +kernel
theorem dX4_readAll_71 : decode cX4_readAll 71 = .ok (.invokevirtual 47, 3) := by decide +kernel
theorem dX4_readAll_74 : decode cX4_readAll 74 = .ok (.iload_n 2, 1) := by decide +kernel
theorem dX4_readAll_75 : decode cX4_readAll 75 = .ok (.ireturn, 1) := by decide +kernel
theorem dX4_readRule_0 : decode cX4_readRule 0 = .ok (.aload_n 0, 1) := by decide +kernel
theorem dX4_readRule_1 : decode cX4_readRule 1 = .ok (.aload_n 1, 1) := by decide +kernel
theorem dX4_readRule_2 : decode cX4_readRule 2 = .ok (.invokevirtual 32, 3) := by decide +kernel
theorem dX4_readRule_5 : decode cX4_readRule 5 = .ok (.istore_n 2, 1) := by decide +kernel
theorem dX4_readRule_6 : decode cX4_readRule 6 = .ok (.aload_n 0, 1) := by decide +kernel
theorem dX4_readRule_7 : decode cX4_readRule 7 = .ok (.getfield 25, 3) := by decide +kernel
theorem dX4_readRule_10 : decode cX4_readRule 10 = .ok (.istore_n 3, 1) := by decide +kernel
theorem dX4_readRule_11 : decode cX4_readRule 11 = .ok (.iload_n 2, 1) := by decide +kernel
theorem dX4_readRule_12 : decode cX4_readRule 12 = .ok (.invokestatic 50, 3) := by decide +kernel
theorem dX4_readRule_15 : decode cX4_readRule 15 = .ok (.ifCond .eq 15, 3) := by decide +kernel
theorem dX4_readRule_18 : decode cX4_readRule 18 = .ok (.aload_n 0, 1) := by decide +kernel
theorem dX4_readRule_19 : decode cX4_readRule 19 = .ok (.getfield 12, 3) := by decide +kernel
theorem dX4_readRule_22 : decode cX4_readRule 22 = .ok (.getfield 29, 3) := by decide +kernel
theorem dX4_readRule_25 : decode cX4_readRule 25 = .ok (.bipush 60, 2) := by decide +kernel
theorem dX4_readRule_27 : decode cX4_readRule 27 = .ok (.if_icmp .lt 5, 3) := by decide +kernel
theorem dX4_readRule_30 : decode cX4_readRule 30 = .ok (.iconst 0, 1) := by decide +kernel
theorem dX4_readRule_31 : decode cX4_readRule 31 = .ok (.ireturn, 1) := by decide +kernel
theorem dX4_readRule_32 : decode cX4_readRule 32 = .ok (.aload_n 0, 1) := by decide +kernel
theorem dX4_readRule_33 : decode cX4_readRule 33 = .ok (.dup, 1) := by decide +kernel
theorem dX4_readRule_34 : decode cX4_readRule 34 = .ok (.getfield 25, 3) := by decide +kernel
theorem dX4_readRule_37 : decode cX4_readRule 37 = .ok (.iconst 1, 1) := by decide +kernel
theorem dX4_readRule_38 : decode cX4_readRule 38 = .ok (.iadd, 1) := by decide +kernel
theorem dX4_readRule_39 : decode cX4_readRule 39 = .ok (.putfield 25, 3) := by decide +kernel
theorem dX4_readRule_42 : decode cX4_readRule 42 = .ok (.aload_n 0, 1) := by decide +kernel
theorem dX4_readRule_43 : decode cX4_readRule 43 = .ok (.aload_n 1, 1) := by decide +kernel
theorem dX4_readRule_44 : decode cX4_readRule 44 = .ok (.bipush 61, 2) := by decide +kernel
theorem dX4_readRule_46 : decode cX4_readRule 46 = .ok (.invokevirtual 54, 3) := by decide +kernel
theorem dX4_readRule_49 : decode cX4_readRule 49 = .ok (.ifCond .ne 5, 3) := by decide +kernel
theorem dX4_readRule_52 : decode cX4_readRule 52 = .ok (.iconst 0, 1) := by decide +kernel
theorem dX4_readRule_53 : decode cX4_readRule 53 = .ok (.ireturn, 1) := by decide +kernel
theorem dX4_readRule_54 : decode cX4_readRule 54 = .ok (.aload_n 0, 1) := by decide +kernel
theorem dX4_readRule_55 : decode cX4_readRule 55 = .ok (.aload_n 1, 1) := by decide +kernel
theorem dX4_readRule_56 : decode cX4_readRule 56 = .ok (.invokevirtual 58, 3) := by decide +kernel
theorem dX4_readRule_59 : decode cX4_readRule 59 = .ok (.istore 4, 2) := by decide +kernel
theorem dX4_readRule_61 : decode cX4_readRule 61 = .ok (.iload 4, 2) := by decide +kernel
theorem dX4_readRule_63 : decode cX4_readRule 63 = .ok (.iconst (-1), 1) := by decide +kernel
theorem dX4_readRule_64 : decode cX4_readRule 64 = .ok (.if_icmp .ne 5, 3) := by decide +kernel
theorem dX4_readRule_67 : decode cX4_readRule 67 = .ok (.iconst 0, 1) := by decide +kernel
theorem dX4_readRule_68 : decode cX4_readRule 68 = .ok (.ireturn, 1) := by decide +kernel
theorem dX4_readRule_69 : decode cX4_readRule 69 = .ok (.aload_n 0, 1) := by decide +kernel
theorem dX4_readRule_70 : decode cX4_readRule 70 = .ok (.aload_n 1, 1) := by decide +kernel
theorem dX4_readRule_71 : decode cX4_readRule 71 = .ok (.invokevirtual 58, 3) := by decide +kernel
theorem dX4_readRule_74 : decode cX4_readRule 74 = .ok (.istore 5, 2) := by decide +kernel
theorem dX4_readRule_76 : decode cX4_readRule 76 = .ok (.aload_n 0, 1) := by decide +kernel
theorem dX4_readRule_77 : decode cX4_readRule 77 = .ok (.aload_n 1, 1) := by decide +kernel
theorem dX4_readRule_78 : decode cX4_readRule 78 = .ok (.invokevirtual 61, 3) := by decide +kernel
theorem dX4_readRule_81 : decode cX4_readRule 81 = .ok (.istore 6, 2) := by decide +kernel
theorem dX4_readRule_83 : decode cX4_readRule 83 = .ok (.iload 6, 2) := by decide +kernel
theorem dX4_readRule_85 : decode cX4_readRule 85 = .ok (.iconst (-1), 1) := by decide +kernel
theorem dX4_readRule_86 : decode cX4_readRule 86 = .ok (.if_icmp .eq 13, 3) := by decide +kernel
theorem dX4_readRule_89 : decode cX4_readRule 89 = .ok (.aload_n 0, 1) := by decide +kernel
theorem dX4_readRule_90 : decode cX4_readRule 90 = .ok (.aload_n 1, 1) := by decide +kernel
theorem dX4_readRule_91 : decode cX4_readRule 91 = .ok (.bipush 59, 2) := by decide +kernel
theorem dX4_readRule_93 : decode cX4_readRule 93 = .ok (.invokevirtual 54, 3) := by decide +kernel
theorem dX4_readRule_96 : decode cX4_readRule 96 = .ok (.ifCond .ne 5, 3) := by decide +kernel
theorem dX4_readRule_99 : decode cX4_readRule 99 = .ok (.iconst 0, 1) := by decide +kernel
theorem dX4_readRule_100 : decode cX4_readRule 100 = .ok (.ireturn, 1) := by decide +kernel
theorem dX4_readRule_101 : decode cX4_readRule 101 = .ok (.aload_n 0, 1) := by decide +kernel
theorem dX4_readRule_102 : decode cX4_readRule 102 = .ok (.getfield 12, 3) := by decide +kernel
theorem dX4_readRule_105 : decode cX4_readRule 105 = .ok (.getfield 29, 3) := by decide +kernel
theorem dX4_readRule_108 : decode cX4_readRule 108 = .ok (.istore 7, 2) := by decide +kernel
theorem dX4_readRule_110 : decode cX4_readRule 110 = .ok (.aload_n 0, 1) := by decide +kernel
theorem dX4_readRule_111 : decode cX4_readRule 111 = .ok (.getfield 12, 3) := by decide +kernel
theorem dX4_readRule_114 : decode cX4_readRule 114 = .ok (.getfield 64, 3) := by decide +kernel
theorem dX4_readRule_117 : decode cX4_readRule 117 = .ok (.iload 7, 2) := by decide +kernel
theorem dX4_readRule_119 : decode cX4_readRule 119 = .ok (.iload_n 2, 1) := by decide +kernel
theorem dX4_readRule_120 : decode cX4_readRule 120 = .ok (.bipush 65, 2) := by decide +kernel
theorem dX4_readRule_122 : decode cX4_readRule 122 = .ok (.isub, 1) := by decide +kernel
theorem dX4_readRule_123 : decode cX4_readRule 123 = .ok (.iastore, 1) := by decide +kernel
theorem dX4_readRule_124 : decode cX4_readRule 124 = .ok (.aload_n 0, 1) := by decide +kernel
theorem dX4_readRule_125 : decode cX4_readRule 125 = .ok (.getfield 12, 3) := by decide +kernel
theorem dX4_readRule_128 : decode cX4_readRule 128 = .ok (.getfield 67, 3) := by decide +kernel
theorem dX4_readRule_131 : decode cX4_readRule 131 = .ok (.iload 7, 2) := by decide +kernel
theorem dX4_readRule_133 : decode cX4_readRule 133 = .ok (.iload 4, 2) := by decide +kernel
theorem dX4_readRule_135 : decode cX4_readRule 135 = .ok (.iastore, 1) := by decide +kernel
theorem dX4_readRule_136 : decode cX4_readRule 136 = .ok (.aload_n 0, 1) := by decide +kernel
theorem dX4_readRule_137 : decode cX4_readRule 137 = .ok (.getfield 12, 3) := by decide +kernel
theorem dX4_readRule_140 : decode cX4_readRule 140 = .ok (.getfield 70, 3) := by decide +kernel
theorem dX4_readRule_143 : decode cX4_readRule 143 = .ok (.iload 7, 2) := by decide +kernel
theorem dX4_readRule_145 : decode cX4_readRule 145 = .ok (.iload 5, 2) := by decide +kernel
theorem dX4_readRule_147 : decode cX4_readRule 147 = .ok (.iastore, 1) := by decide +kernel
theorem dX4_readRule_148 : decode cX4_readRule 148 = .ok (.aload_n 0, 1) := by decide +kernel
theorem dX4_readRule_149 : decode cX4_readRule 149 = .ok (.getfield 12, 3) := by decide +kernel
theorem dX4_readRule_152 : decode cX4_readRule 152 = .ok (.getfield 73, 3) := by decide +kernel
theorem dX4_readRule_155 : decode cX4_readRule 155 = .ok (.iload 7, 2) := by decide +kernel
theorem dX4_readRule_157 : decode cX4_readRule 157 = .ok (.iload 6, 2) := by decide +kernel
theorem dX4_readRule_159 : decode cX4_readRule 159 = .ok (.iastore, 1) := by decide +kernel
theorem dX4_readRule_160 : decode cX4_readRule 160 = .ok (.aload_n 0, 1) := by decide +kernel
theorem dX4_readRule_161 : decode cX4_readRule 161 = .ok (.getfield 18, 3) := by decide +kernel
theorem dX4_readRule_164 : decode cX4_readRule 164 = .ok (.iload 7, 2) := by decide +kernel
theorem dX4_readRule_166 : decode cX4_readRule 166 = .ok (.iload_n 3, 1) := by decide +kernel
theorem dX4_readRule_167 : decode cX4_readRule 167 = .ok (.iastore, 1) := by decide +kernel
theorem dX4_readRule_168 : decode cX4_readRule 168 = .ok (.aload_n 0, 1) := by decide +kernel
theorem dX4_readRule_169 : decode cX4_readRule 169 = .ok (.getfield 12, 3) := by decide +kernel
theorem dX4_readRule_172 : decode cX4_readRule 172 = .ok (.iload 7, 2) := by decide +kernel
theorem dX4_readRule_174 : decode cX4_readRule 174 = .ok (.iconst 1, 1) := by decide +kernel
theorem dX4_readRule_175 : decode cX4_readRule 175 = .ok (.iadd, 1) := by decide +kernel
theorem dX4_readRule_176 : decode cX4_readRule 176 = .ok (.putfield 29, 3) := by decide +kernel
theorem dX4_readRule_179 : decode cX4_readRule 179 = .ok (.iconst 1, 1) := by decide +kernel
theorem dX4_readRule_180 : decode cX4_readRule 180 = .ok (.ireturn, 1) := by decide +kernel
theorem dX4_readItem_0 : decode cX4_readItem 0 = .ok (.aload_n 0, 1) := by decide +kernel
theorem dX4_readItem_1 : decode cX4_readItem 1 = .ok (.aload_n 1, 1) := by decide +kernel
theorem dX4_readItem_2 : decode cX4_readItem 2 = .ok (.invokevirtual 32, 3) := by decide +kernel
theorem dX4_readItem_5 : decode cX4_readItem 5 = .ok (.istore_n 2, 1) := by decide +kernel
theorem dX4_readItem_6 : decode cX4_readItem 6 = .ok (.iload_n 2, 1) := by decide +kernel
theorem dX4_readItem_7 : decode cX4_readItem 7 = .ok (.invokestatic 50, 3) := by decide +kernel
theorem dX4_readItem_10 : decode cX4_readItem 10 = .ok (.ifCond .eq 18, 3) := by decide +kernel
theorem dX4_readItem_13 : decode cX4_readItem 13 = .ok (.aload_n 0, 1) := by decide +kernel
theorem dX4_readItem_14 : decode cX4_readItem 14 = .ok (.dup, 1) := by decide +kernel
theorem dX4_readItem_15 : decode cX4_readItem 15 = .ok (.getfield 25, 3) := by decide +kernel
theorem dX4_readItem_18 : decode cX4_readItem 18 = .ok (.iconst 1, 1) := by decide +kernel
theorem dX4_readItem_19 : decode cX4_readItem 19 = .ok (.iadd, 1) := by decide +kernel
theorem dX4_readItem_20 : decode cX4_readItem 20 = .ok (.putfield 25, 3) := by decide +kernel
theorem dX4_readItem_23 : decode cX4_readItem 23 = .ok (.iload_n 2, 1) := by decide +kernel
theorem dX4_readItem_24 : decode cX4_readItem 24 = .ok (.bipush 65, 2) := by decide +kernel
theorem dX4_readItem_26 : decode cX4_readItem 26 = .ok (.isub, 1) := by decide +kernel
theorem dX4_readItem_27 : decode cX4_readItem 27 = .ok (.ireturn, 1) := by decide +kernel
theorem dX4_readItem_28 : decode cX4_readItem 28 = .ok (.iload_n 2, 1) := by decide +kernel
theorem dX4_readItem_29 : decode cX4_readItem 29 = .ok (.bipush 49, 2) := by decide +kernel
theorem dX4_readItem_31 : decode cX4_readItem 31 = .ok (.if_icmp .lt 9, 3) := by decide +kernel
theorem dX4_readItem_34 : decode cX4_readItem 34 = .ok (.iload_n 2, 1) := by decide +kernel
theorem dX4_readItem_35 : decode cX4_readItem 35 = .ok (.bipush 55, 2) := by decide +kernel
theorem dX4_readItem_37 : decode cX4_readItem 37 = .ok (.if_icmp .le 5, 3) := by decide +kernel
theorem dX4_readItem_40 : decode cX4_readItem 40 = .ok (.iconst (-1), 1) := by decide +kernel
theorem dX4_readItem_41 : decode cX4_readItem 41 = .ok (.ireturn, 1) := by decide +kernel
theorem dX4_readItem_42 : decode cX4_readItem 42 = .ok (.aload_n 0, 1) := by decide +kernel
theorem dX4_readItem_43 : decode cX4_readItem 43 = .ok (.dup, 1) := by decide +kernel
theorem dX4_readItem_44 : decode cX4_readItem 44 = .ok (.getfield 25, 3) := by decide +kernel
theorem dX4_readItem_47 : decode cX4_readItem 47 = .ok (.iconst 1, 1) := by decide +kernel
theorem dX4_readItem_48 : decode cX4_readItem 48 = .ok (.iadd, 1) := by decide +kernel
theorem dX4_readItem_49 : decode cX4_readItem 49 = .ok (.putfield 25, 3) := by decide +kernel
theorem dX4_readItem_52 : decode cX4_readItem 52 = .ok (.aload_n 1, 1) := by decide +kernel
theorem dX4_readItem_53 : decode cX4_readItem 53 = .ok (.aload_n 0, 1) := by decide +kernel
theorem dX4_readItem_54 : decode cX4_readItem 54 = .ok (.getfield 25, 3) := by decide +kernel
theorem dX4_readItem_57 : decode cX4_readItem 57 = .ok (.invokevirtual 76, 3) := by decide +kernel
theorem dX4_readItem_60 : decode cX4_readItem 60 = .ok (.invokestatic 82, 3) := by decide +kernel
theorem dX4_readItem_63 : decode cX4_readItem 63 = .ok (.istore_n 3, 1) := by decide +kernel
theorem dX4_readItem_64 : decode cX4_readItem 64 = .ok (.iload_n 3, 1) := by decide +kernel
theorem dX4_readItem_65 : decode cX4_readItem 65 = .ok (.iconst (-1), 1) := by decide +kernel
theorem dX4_readItem_66 : decode cX4_readItem 66 = .ok (.if_icmp .ne 9, 3) := by decide +kernel
theorem dX4_readItem_69 : decode cX4_readItem 69 = .ok (.bipush 9, 2) := by decide +kernel
theorem dX4_readItem_71 : decode cX4_readItem 71 = .ok (.istore_n 3, 1) := by decide +kernel
theorem dX4_readItem_72 : decode cX4_readItem 72 = .ok (.goto 13, 3) := by decide +kernel
theorem dX4_readItem_75 : decode cX4_readItem 75 = .ok (.aload_n 0, 1) := by decide +kernel
theorem dX4_readItem_76 : decode cX4_readItem 76 = .ok (.dup, 1) := by decide +kernel
theorem dX4_readItem_77 : decode cX4_readItem 77 = .ok (.getfield 25, 3) := by decide +kernel
theorem dX4_readItem_80 : decode cX4_readItem 80 = .ok (.iconst 1, 1) := by decide +kernel
theorem dX4_readItem_81 : decode cX4_readItem 81 = .ok (.iadd, 1) := by decide +kernel
theorem dX4_readItem_82 : decode cX4_readItem 82 = .ok (.putfield 25, 3) := by decide +kernel
theorem dX4_readItem_85 : decode cX4_readItem 85 = .ok (.bipush 26, 2) := by decide +kernel
theorem dX4_readItem_87 : decode cX4_readItem 87 = .ok (.iload_n 2, 1) := by decide +kernel
theorem dX4_readItem_88 : decode cX4_readItem 88 = .ok (.bipush 49, 2) := by decide +kernel
theorem dX4_readItem_90 : decode cX4_readItem 90 = .ok (.isub, 1) := by decide +kernel
theorem dX4_readItem_91 : decode cX4_readItem 91 = .ok (.bipush 10, 2) := by decide +kernel
theorem dX4_readItem_93 : decode cX4_readItem 93 = .ok (.imul, 1) := by decide +kernel
theorem dX4_readItem_94 : decode cX4_readItem 94 = .ok (.iadd, 1) := by decide +kernel
theorem dX4_readItem_95 : decode cX4_readItem 95 = .ok (.iload_n 3, 1) := by decide +kernel
theorem dX4_readItem_96 : decode cX4_readItem 96 = .ok (.iadd, 1) := by decide +kernel
theorem dX4_readItem_97 : decode cX4_readItem 97 = .ok (.ireturn, 1) := by decide +kernel
theorem dX4_readCost_0 : decode cX4_readCost 0 = .ok (.aload_n 0, 1) := by decide +kernel
theorem dX4_readCost_1 : decode cX4_readCost 1 = .ok (.aload_n 1, 1) := by decide +kernel
theorem dX4_readCost_2 : decode cX4_readCost 2 = .ok (.bipush 58, 2) := by decide +kernel
theorem dX4_readCost_4 : decode cX4_readCost 4 = .ok (.invokevirtual 54, 3) := by decide +kernel
theorem dX4_readCost_7 : decode cX4_readCost 7 = .ok (.ifCond .ne 5, 3) := by decide +kernel
theorem dX4_readCost_10 : decode cX4_readCost 10 = .ok (.iconst 0, 1) := by decide +kernel
theorem dX4_readCost_11 : decode cX4_readCost 11 = .ok (.ireturn, 1) := by decide +kernel
theorem dX4_readCost_12 : decode cX4_readCost 12 = .ok (.aload_n 0, 1) := by decide +kernel
theorem dX4_readCost_13 : decode cX4_readCost 13 = .ok (.aload_n 1, 1) := by decide +kernel
theorem dX4_readCost_14 : decode cX4_readCost 14 = .ok (.invokevirtual 32, 3) := by decide +kernel
theorem dX4_readCost_17 : decode cX4_readCost 17 = .ok (.istore_n 2, 1) := by decide +kernel
theorem dX4_readCost_18 : decode cX4_readCost 18 = .ok (.iload_n 2, 1) := by decide +kernel
theorem dX4_readCost_19 : decode cX4_readCost 19 = .ok (.invokestatic 85, 3) := by decide +kernel
theorem dX4_readCost_22 : decode cX4_readCost 22 = .ok (.ifCond .ne 5, 3) := by decide +kernel
theorem dX4_readCost_25 : decode cX4_readCost 25 = .ok (.iconst (-1), 1) := by decide +kernel
theorem dX4_readCost_26 : decode cX4_readCost 26 = .ok (.ireturn, 1) := by decide +kernel
theorem dX4_readCost_27 : decode cX4_readCost 27 = .ok (.iconst 0, 1) := by decide +kernel
theorem dX4_readCost_28 : decode cX4_readCost 28 = .ok (.istore_n 3, 1) := by decide +kernel
theorem dX4_readCost_29 : decode cX4_readCost 29 = .ok (.iconst 0, 1) := by decide +kernel
theorem dX4_readCost_30 : decode cX4_readCost 30 = .ok (.istore 4, 2) := by decide +kernel
theorem dX4_readCost_32 : decode cX4_readCost 32 = .ok (.iload 4, 2) := by decide +kernel
theorem dX4_readCost_34 : decode cX4_readCost 34 = .ok (.iconst 3, 1) := by decide +kernel
theorem dX4_readCost_35 : decode cX4_readCost 35 = .ok (.if_icmp .ge 45, 3) := by decide +kernel
theorem dX4_readCost_38 : decode cX4_readCost 38 = .ok (.iload_n 2, 1) := by decide +kernel
theorem dX4_readCost_39 : decode cX4_readCost 39 = .ok (.invokestatic 85, 3) := by decide +kernel
theorem dX4_readCost_42 : decode cX4_readCost 42 = .ok (.ifCond .eq 38, 3) := by decide +kernel
theorem dX4_readCost_45 : decode cX4_readCost 45 = .ok (.iload_n 3, 1) := by decide +kernel
theorem dX4_readCost_46 : decode cX4_readCost 46 = .ok (.bipush 10, 2) := by decide +kernel
theorem dX4_readCost_48 : decode cX4_readCost 48 = .ok (.imul, 1) := by decide +kernel
theorem dX4_readCost_49 : decode cX4_readCost 49 = .ok (.iload_n 2, 1) := by decide +kernel
theorem dX4_readCost_50 : decode cX4_readCost 50 = .ok (.iadd, 1) := by decide +kernel
theorem dX4_readCost_51 : decode cX4_readCost 51 = .ok (.bipush 48, 2) := by decide +kernel
theorem dX4_readCost_53 : decode cX4_readCost 53 = .ok (.isub, 1) := by decide +kernel
theorem dX4_readCost_54 : decode cX4_readCost 54 = .ok (.istore_n 3, 1) := by decide +kernel
theorem dX4_readCost_55 : decode cX4_readCost 55 = .ok (.aload_n 0, 1) := by decide +kernel
theorem dX4_readCost_56 : decode cX4_readCost 56 = .ok (.dup, 1) := by decide +kernel
theorem dX4_readCost_57 : decode cX4_readCost 57 = .ok (.getfield 25, 3) := by decide +kernel
theorem dX4_readCost_60 : decode cX4_readCost 60 = .ok (.iconst 1, 1) := by decide +kernel
theorem dX4_readCost_61 : decode cX4_readCost 61 = .ok (.iadd, 1) := by decide +kernel
theorem dX4_readCost_62 : decode cX4_readCost 62 = .ok (.putfield 25, 3) := by decide +kernel
theorem dX4_readCost_65 : decode cX4_readCost 65 = .ok (.aload_n 1, 1) := by decide +kernel
theorem dX4_readCost_66 : decode cX4_readCost 66 = .ok (.aload_n 0, 1) := by decide +kernel
theorem dX4_readCost_67 : decode cX4_readCost 67 = .ok (.getfield 25, 3) := by decide +kernel
theorem dX4_readCost_70 : decode cX4_readCost 70 = .ok (.invokevirtual 76, 3) := by decide +kernel
theorem dX4_readCost_73 : decode cX4_readCost 73 = .ok (.istore_n 2, 1) := by decide +kernel
theorem dX4_readCost_74 : decode cX4_readCost 74 = .ok (.iinc 4 1, 3) := by decide +kernel
theorem dX4_readCost_77 : decode cX4_readCost 77 = .ok (.goto (-45), 3) := by decide +kernel
theorem dX4_readCost_80 : decode cX4_readCost 80 = .ok (.iload_n 3, 1) := by decide +kernel
theorem dX4_readCost_81 : decode cX4_readCost 81 = .ok (.ireturn, 1) := by decide +kernel
theorem dX4_takes_0 : decode cX4_takes 0 = .ok (.aload_n 0, 1) := by decide +kernel
theorem dX4_takes_1 : decode cX4_takes 1 = .ok (.aload_n 1, 1) := by decide +kernel
theorem dX4_takes_2 : decode cX4_takes 2 = .ok (.invokevirtual 32, 3) := by decide +kernel
theorem dX4_takes_5 : decode cX4_takes 5 = .ok (.iload_n 2, 1) := by decide +kernel
theorem dX4_takes_6 : decode cX4_takes 6 = .ok (.if_icmp .ne 7, 3) := by decide +kernel
theorem dX4_takes_9 : decode cX4_takes 9 = .ok (.iconst 1, 1) := by decide +kernel
theorem dX4_takes_10 : decode cX4_takes 10 = .ok (.goto 4, 3) := by decide +kernel
theorem dX4_takes_13 : decode cX4_takes 13 = .ok (.iconst 0, 1) := by decide +kernel
theorem dX4_takes_14 : decode cX4_takes 14 = .ok (.istore_n 3, 1) := by decide +kernel
theorem dX4_takes_15 : decode cX4_takes 15 = .ok (.iload_n 3, 1) := by decide +kernel
theorem dX4_takes_16 : decode cX4_takes 16 = .ok (.ifCond .eq 13, 3) := by decide +kernel
theorem dX4_takes_19 : decode cX4_takes 19 = .ok (.aload_n 0, 1) := by decide +kernel
theorem dX4_takes_20 : decode cX4_takes 20 = .ok (.dup, 1) := by decide +kernel
theorem dX4_takes_21 : decode cX4_takes 21 = .ok (.getfield 25, 3) := by decide +kernel
theorem dX4_takes_24 : decode cX4_takes 24 = .ok (.iconst 1, 1) := by decide +kernel
theorem dX4_takes_25 : decode cX4_takes 25 = .ok (.iadd, 1) := by decide +kernel
theorem dX4_takes_26 : decode cX4_takes 26 = .ok (.putfield 25, 3) := by decide +kernel
theorem dX4_takes_29 : decode cX4_takes 29 = .ok (.iload_n 3, 1) := by decide +kernel
theorem dX4_takes_30 : decode cX4_takes 30 = .ok (.ireturn, 1) := by decide +kernel
theorem dX4_nextOctet_0 : decode cX4_nextOctet 0 = .ok (.aload_n 0, 1) := by decide +kernel
theorem dX4_nextOctet_1 : decode cX4_nextOctet 1 = .ok (.getfield 25, 3) := by decide +kernel
theorem dX4_nextOctet_4 : decode cX4_nextOctet 4 = .ok (.aload_n 1, 1) := by decide +kernel
theorem dX4_nextOctet_5 : decode cX4_nextOctet 5 = .ok (.getfield 88, 3) := by decide +kernel
theorem dX4_nextOctet_8 : decode cX4_nextOctet 8 = .ok (.if_icmp .ge 29, 3) := by decide +kernel
theorem dX4_nextOctet_11 : decode cX4_nextOctet 11 = .ok (.aload_n 1, 1) := by decide +kernel
theorem dX4_nextOctet_12 : decode cX4_nextOctet 12 = .ok (.aload_n 0, 1) := by decide +kernel
theorem dX4_nextOctet_13 : decode cX4_nextOctet 13 = .ok (.getfield 25, 3) := by decide +kernel
theorem dX4_nextOctet_16 : decode cX4_nextOctet 16 = .ok (.invokevirtual 76, 3) := by decide +kernel
theorem dX4_nextOctet_19 : decode cX4_nextOctet 19 = .ok (.bipush 32, 2) := by decide +kernel
theorem dX4_nextOctet_21 : decode cX4_nextOctet 21 = .ok (.if_icmp .ne 16, 3) := by decide +kernel
theorem dX4_nextOctet_24 : decode cX4_nextOctet 24 = .ok (.aload_n 0, 1) := by decide +kernel
theorem dX4_nextOctet_25 : decode cX4_nextOctet 25 = .ok (.dup, 1) := by decide +kernel
theorem dX4_nextOctet_26 : decode cX4_nextOctet 26 = .ok (.getfield 25, 3) := by decide +kernel
theorem dX4_nextOctet_29 : decode cX4_nextOctet 29 = .ok (.iconst 1, 1) := by decide +kernel
theorem dX4_nextOctet_30 : decode cX4_nextOctet 30 = .ok (.iadd, 1) := by decide +kernel
theorem dX4_nextOctet_31 : decode cX4_nextOctet 31 = .ok (.putfield 25, 3) := by decide +kernel
theorem dX4_nextOctet_34 : decode cX4_nextOctet 34 = .ok (.goto (-34), 3) := by decide +kernel
theorem dX4_nextOctet_37 : decode cX4_nextOctet 37 = .ok (.aload_n 1, 1) := by decide +kernel
theorem dX4_nextOctet_38 : decode cX4_nextOctet 38 = .ok (.aload_n 0, 1) := by decide +kernel
theorem dX4_nextOctet_39 : decode cX4_nextOctet 39 = .ok (.getfield 25, 3) := by decide +kernel
theorem dX4_nextOctet_42 : decode cX4_nextOctet 42 = .ok (.invokevirtual 76, 3) := by decide +kernel
theorem dX4_nextOctet_45 : decode cX4_nextOctet 45 = .ok (.ireturn, 1) := by decide +kernel
theorem dX4_isName_0 : decode cX4_isName 0 = .ok (.iload_n 0, 1) := by decide +kernel
theorem dX4_isName_1 : decode cX4_isName 1 = .ok (.bipush 65, 2) := by decide +kernel
theorem dX4_isName_3 : decode cX4_isName 3 = .ok (.if_icmp .lt 13, 3) := by decide +kernel
theorem dX4_isName_6 : decode cX4_isName 6 = .ok (.iload_n 0, 1) := by decide +kernel
theorem dX4_isName_7 : decode cX4_isName 7 = .ok (.bipush 90, 2) := by decide +kernel
theorem dX4_isName_9 : decode cX4_isName 9 = .ok (.if_icmp .gt 7, 3) := by decide +kernel
theorem dX4_isName_12 : decode cX4_isName 12 = .ok (.iconst 1, 1) := by decide +kernel
theorem dX4_isName_13 : decode cX4_isName 13 = .ok (.goto 4, 3) := by decide +kernel
theorem dX4_isName_16 : decode cX4_isName 16 = .ok (.iconst 0, 1) := by decide +kernel
theorem dX4_isName_17 : decode cX4_isName 17 = .ok (.ireturn, 1) := by decide +kernel
theorem dX4_isFigure_0 : decode cX4_isFigure 0 = .ok (.iload_n 0, 1) := by decide +kernel
theorem dX4_isFigure_1 : decode cX4_isFigure 1 = .ok (.bipush 48, 2) := by decide +kernel
theorem dX4_isFigure_3 : decode cX4_isFigure 3 = .ok (.if_icmp .lt 13, 3) := by decide +kernel
theorem dX4_isFigure_6 : decode cX4_isFigure 6 = .ok (.iload_n 0, 1) := by decide +kernel
theorem dX4_isFigure_7 : decode cX4_isFigure 7 = .ok (.bipush 57, 2) := by decide +kernel
theorem dX4_isFigure_9 : decode cX4_isFigure 9 = .ok (.if_icmp .gt 7, 3) := by decide +kernel
theorem dX4_isFigure_12 : decode cX4_isFigure 12 = .ok (.iconst 1, 1) := by decide +kernel
theorem dX4_isFigure_13 : decode cX4_isFigure 13 = .ok (.goto 4, 3) := by decide +kernel
theorem dX4_isFigure_16 : decode cX4_isFigure 16 = .ok (.iconst 0, 1) := by decide +kernel
theorem dX4_isFigure_17 : decode cX4_isFigure 17 = .ok (.ireturn, 1) := by decide +kernel
theorem dX4_kindOf_0 : decode cX4_kindOf 0 = .ok (.iload_n 0, 1) := by decide +kernel
theorem dX4_kindOf_1 : decode cX4_kindOf 1 = .ok (.ifCond .ge 7, 3) := by decide +kernel
theorem dX4_kindOf_4 : decode cX4_kindOf 4 = .ok (.iconst (-1), 1) := by decide +kernel
theorem dX4_kindOf_5 : decode cX4_kindOf 5 = .ok (.goto 10, 3) := by decide +kernel
theorem dX4_kindOf_8 : decode cX4_kindOf 8 = .ok (.ldc 91, 2) := by decide +kernel
theorem dX4_kindOf_10 : decode cX4_kindOf 10 = .ok (.iload_n 0, 1) := by decide +kernel
theorem dX4_kindOf_11 : decode cX4_kindOf 11 = .ok (.i2c, 1) := by decide +kernel
theorem dX4_kindOf_12 : decode cX4_kindOf 12 = .ok (.invokevirtual 93, 3) := by decide +kernel
theorem dX4_kindOf_15 : decode cX4_kindOf 15 = .ok (.ireturn, 1) := by decide +kernel
theorem dX4_findReach_0 : decode cX4_findReach 0 = .ok (.iconst 0, 1) := by decide +kernel
theorem dX4_findReach_1 : decode cX4_findReach 1 = .ok (.istore_n 1, 1) := by decide +kernel
theorem dX4_findReach_2 : decode cX4_findReach 2 = .ok (.iload_n 1, 1) := by decide +kernel
theorem dX4_findReach_3 : decode cX4_findReach 3 = .ok (.bipush 26, 2) := by decide +kernel
theorem dX4_findReach_5 : decode cX4_findReach 5 = .ok (.if_icmp .ge 16, 3) := by decide +kernel
theorem dX4_findReach_8 : decode cX4_findReach 8 = .ok (.aload_n 0, 1) := by decide +kernel
theorem dX4_findReach_9 : decode cX4_findReach 9 = .ok (.getfield 22, 3) := by decide +kernel
theorem dX4_findReach_12 : decode cX4_findReach 12 = .ok (.iload_n 1, 1) := by decide +kernel
theorem dX4_findReach_13 : decode cX4_findReach 13 = .ok (.iconst 0, 1) := by decide +kernel
theorem dX4_findReach_14 : decode cX4_findReach 14 = .ok (.iastore, 1) := by decide +kernel
theorem dX4_findReach_15 : decode cX4_findReach 15 = .ok (.iinc 1 1, 3) := by decide +kernel
theorem dX4_findReach_18 : decode cX4_findReach 18 = .ok (.goto (-16), 3) := by decide +kernel
theorem dX4_findReach_21 : decode cX4_findReach 21 = .ok (.iconst 0, 1) := by decide +kernel
theorem dX4_findReach_22 : decode cX4_findReach 22 = .ok (.istore_n 1, 1) := by decide +kernel
theorem dX4_findReach_23 : decode cX4_findReach 23 = .ok (.iload_n 1, 1) := by decide +kernel
theorem dX4_findReach_24 : decode cX4_findReach 24 = .ok (.aload_n 0, 1) := by decide +kernel
theorem dX4_findReach_25 : decode cX4_findReach 25 = .ok (.getfield 12, 3) := by decide +kernel
theorem dX4_findReach_28 : decode cX4_findReach 28 = .ok (.getfield 29, 3) := by decide +kernel
theorem dX4_findReach_31 : decode cX4_findReach 31 = .ok (.if_icmp .ge 48, 3) := by decide +kernel
theorem dX4_findReach_34 : decode cX4_findReach 34 = .ok (.aload_n 0, 1) := by decide +kernel
theorem dX4_findReach_35 : decode cX4_findReach 35 = .ok (.getfield 12, 3) := by decide +kernel
theorem dX4_findReach_38 : decode cX4_findReach 38 = .ok (.iload_n 1, 1) := by decide +kernel
theorem dX4_findReach_39 : decode cX4_findReach 39 = .ok (.invokevirtual 98, 3) := by decide +kernel
theorem dX4_findReach_42 : decode cX4_findReach 42 = .ok (.ifCond .eq 31, 3) := by decide +kernel
theorem dX4_findReach_45 : decode cX4_findReach 45 = .ok (.aload_n 0, 1) := by decide +kernel
theorem dX4_findReach_46 : decode cX4_findReach 46 = .ok (.getfield 22, 3) := by decide +kernel
theorem dX4_findReach_49 : decode cX4_findReach 49 = .ok (.aload_n 0, 1) := by decide +kernel
theorem dX4_findReach_50 : decode cX4_findReach 50 = .ok (.getfield 12, 3) := by decide +kernel
theorem dX4_findReach_53 : decode cX4_findReach 53 = .ok (.getfield 64, 3) := by decide +kernel
theorem dX4_findReach_56 : decode cX4_findReach 56 = .ok (.iload_n 1, 1) := by decide +kernel
theorem dX4_findReach_57 : decode cX4_findReach 57 = .ok (.iaload, 1) := by decide +kernel
theorem dX4_findReach_58 : decode cX4_findReach 58 = .ok (.dup2, 1) := by decide +kernel
theorem dX4_findReach_59 : decode cX4_findReach 59 = .ok (.iaload, 1) := by decide +kernel
theorem dX4_findReach_60 : decode cX4_findReach 60 = .ok (.iconst 1, 1) := by decide +kernel
theorem dX4_findReach_61 : decode cX4_findReach 61 = .ok (.aload_n 0, 1) := by decide +kernel
theorem dX4_findReach_62 : decode cX4_findReach 62 = .ok (.getfield 12, 3) := by decide +kernel
theorem dX4_findReach_65 : decode cX4_findReach 65 = .ok (.getfield 67, 3) := by decide +kernel
theorem dX4_findReach_68 : decode cX4_findReach 68 = .ok (.iload_n 1, 1) := by decide +kernel
theorem dX4_findReach_69 : decode cX4_findReach 69 = .ok (.iaload, 1) := by decide +kernel
theorem dX4_findReach_70 : decode cX4_findReach 70 = .ok (.ishl, 1) := by decide +kernel
theorem dX4_findReach_71 : decode cX4_findReach 71 = .ok (.ior, 1) := by decide +kernel
theorem dX4_findReach_72 : decode cX4_findReach 72 = .ok (.iastore, 1) := by decide +kernel
theorem dX4_findReach_73 : decode cX4_findReach 73 = .ok (.iinc 1 1, 3) := by decide +kernel
theorem dX4_findReach_76 : decode cX4_findReach 76 = .ok (.goto (-53), 3) := by decide +kernel
theorem dX4_findReach_79 : decode cX4_findReach 79 = .ok (.iconst 0, 1) := by decide +kernel
theorem dX4_findReach_80 : decode cX4_findReach 80 = .ok (.istore_n 1, 1) := by decide +kernel
theorem dX4_findReach_81 : decode cX4_findReach 81 = .ok (.iload_n 1, 1) := by decide +kernel
theorem dX4_findReach_82 : decode cX4_findReach 82 = .ok (.bipush 26, 2) := by decide +kernel
theorem dX4_findReach_84 : decode cX4_findReach 84 = .ok (.if_icmp .ge 47, 3) := by decide +kernel
theorem dX4_findReach_87 : decode cX4_findReach 87 = .ok (.iconst 0, 1) := by decide +kernel
theorem dX4_findReach_88 : decode cX4_findReach 88 = .ok (.istore_n 2, 1) := by decide +kernel
theorem dX4_findReach_89 : decode cX4_findReach 89 = .ok (.iload_n 2, 1) := by decide +kernel
theorem dX4_findReach_90 : decode cX4_findReach 90 = .ok (.bipush 26, 2) := by decide +kernel
theorem dX4_findReach_92 : decode cX4_findReach 92 = .ok (.if_icmp .ge 33, 3) := by decide +kernel
theorem dX4_findReach_95 : decode cX4_findReach 95 = .ok (.aload_n 0, 1) := by decide +kernel
theorem dX4_findReach_96 : decode cX4_findReach 96 = .ok (.iload_n 2, 1) := by decide +kernel
theorem dX4_findReach_97 : decode cX4_findReach 97 = .ok (.iload_n 1, 1) := by decide +kernel
theorem dX4_findReach_98 : decode cX4_findReach 98 = .ok (.invokevirtual 101, 3) := by decide +kernel
theorem dX4_findReach_101 : decode cX4_findReach 101 = .ok (.ifCond .eq 18, 3) := by decide +kernel
theorem dX4_findReach_104 : decode cX4_findReach 104 = .ok (.aload_n 0, 1) := by decide +kernel
theorem dX4_findReach_105 : decode cX4_findReach 105 = .ok (.getfield 22, 3) := by decide +kernel
theorem dX4_findReach_108 : decode cX4_findReach 108 = .ok (.iload_n 2, 1) := by decide +kernel
theorem dX4_findReach_109 : decode cX4_findReach 109 = .ok (.dup2, 1) := by decide +kernel
theorem dX4_findReach_110 : decode cX4_findReach 110 = .ok (.iaload, 1) := by decide +kernel
theorem dX4_findReach_111 : decode cX4_findReach 111 = .ok (.aload_n 0, 1) := by decide +kernel
theorem dX4_findReach_112 : decode cX4_findReach 112 = .ok (.getfield 22, 3) := by decide +kernel
theorem dX4_findReach_115 : decode cX4_findReach 115 = .ok (.iload_n 1, 1) := by decide +kernel
theorem dX4_findReach_116 : decode cX4_findReach 116 = .ok (.iaload, 1) := by decide +kernel
theorem dX4_findReach_117 : decode cX4_findReach 117 = .ok (.ior, 1) := by decide +kernel
theorem dX4_findReach_118 : decode cX4_findReach 118 = .ok (.iastore, 1) := by decide +kernel
theorem dX4_findReach_119 : decode cX4_findReach 119 = .ok (.iinc 2 1, 3) := by decide +kernel
theorem dX4_findReach_122 : decode cX4_findReach 122 = .ok (.goto (-33), 3) := by decide +kernel
theorem dX4_findReach_125 : decode cX4_findReach 125 = .ok (.iinc 1 1, 3) := by decide +kernel
theorem dX4_findReach_128 : decode cX4_findReach 128 = .ok (.goto (-47), 3) := by decide +kernel
theorem dX4_findReach_131 : decode cX4_findReach 131 = .ok (.return_, 1) := by decide +kernel
theorem dX4_reaches_0 : decode cX4_reaches 0 = .ok (.aload_n 0, 1) := by decide +kernel
theorem dX4_reaches_1 : decode cX4_reaches 1 = .ok (.getfield 22, 3) := by decide +kernel
theorem dX4_reaches_4 : decode cX4_reaches 4 = .ok (.iload_n 1, 1) := by decide +kernel
theorem dX4_reaches_5 : decode cX4_reaches 5 = .ok (.iaload, 1) := by decide +kernel
theorem dX4_reaches_6 : decode cX4_reaches 6 = .ok (.iload_n 2, 1) := by decide +kernel
theorem dX4_reaches_7 : decode cX4_reaches 7 = .ok (.iushr, 1) := by decide +kernel
theorem dX4_reaches_8 : decode cX4_reaches 8 = .ok (.iconst 1, 1) := by decide +kernel
theorem dX4_reaches_9 : decode cX4_reaches 9 = .ok (.iand, 1) := by decide +kernel
theorem dX4_reaches_10 : decode cX4_reaches 10 = .ok (.ifCond .eq 7, 3) := by decide +kernel
theorem dX4_reaches_13 : decode cX4_reaches 13 = .ok (.iconst 1, 1) := by decide +kernel
theorem dX4_reaches_14 : decode cX4_reaches 14 = .ok (.goto 4, 3) := by decide +kernel
theorem dX4_reaches_17 : decode cX4_reaches 17 = .ok (.iconst 0, 1) := by decide +kernel
theorem dX4_reaches_18 : decode cX4_reaches 18 = .ok (.ireturn, 1) := by decide +kernel
theorem dX4_ringPlace_0 : decode cX4_ringPlace 0 = .ok (.iconst 0, 1) := by decide +kernel
theorem dX4_ringPlace_1 : decode cX4_ringPlace 1 = .ok (.istore_n 1, 1) := by decide +kernel
theorem dX4_ringPlace_2 : decode cX4_ringPlace 2 = .ok (.iload_n 1, 1) := by decide +kernel
theorem dX4_ringPlace_3 : decode cX4_ringPlace 3 = .ok (.aload_n 0, 1) := by decide +kernel
theorem dX4_ringPlace_4 : decode cX4_ringPlace 4 = .ok (.getfield 12, 3) := by decide +kernel
theorem dX4_ringPlace_7 : decode cX4_ringPlace 7 = .ok (.getfield 29, 3) := by decide +kernel
theorem dX4_ringPlace_10 : decode cX4_ringPlace 10 = .ok (.if_icmp .ge 52, 3) := by decide +kernel
theorem dX4_ringPlace_13 : decode cX4_ringPlace 13 = .ok (.aload_n 0, 1) := by decide +kernel
theorem dX4_ringPlace_14 : decode cX4_ringPlace 14 = .ok (.getfield 12, 3) := by decide +kernel
theorem dX4_ringPlace_17 : decode cX4_ringPlace 17 = .ok (.iload_n 1, 1) := by decide +kernel
theorem dX4_ringPlace_18 : decode cX4_ringPlace 18 = .ok (.invokevirtual 98, 3) := by decide +kernel
theorem dX4_ringPlace_21 : decode cX4_ringPlace 21 = .ok (.ifCond .eq 35, 3) := by decide +kernel
theorem dX4_ringPlace_24 : decode cX4_ringPlace 24 = .ok (.aload_n 0, 1) := by decide +kernel
theorem dX4_ringPlace_25 : decode cX4_ringPlace 25 = .ok (.aload_n 0, 1) := by decide +kernel
theorem dX4_ringPlace_26 : decode cX4_ringPlace 26 = .ok (.getfield 12, 3) := by decide +kernel
theorem dX4_ringPlace_29 : decode cX4_ringPlace 29 = .ok (.getfield 67, 3) := by decide +kernel
theorem dX4_ringPlace_32 : decode cX4_ringPlace 32 = .ok (.iload_n 1, 1) := by decide +kernel
theorem dX4_ringPlace_33 : decode cX4_ringPlace 33 = .ok (.iaload, 1) := by decide +kernel
theorem dX4_ringPlace_34 : decode cX4_ringPlace 34 = .ok (.aload_n 0, 1) := by decide +kernel
theorem dX4_ringPlace_35 : decode cX4_ringPlace 35 = .ok (.getfield 12, 3) := by decide +kernel
theorem dX4_ringPlace_38 : decode cX4_ringPlace 38 = .ok (.getfield 64, 3) := by decide +kernel
theorem dX4_ringPlace_41 : decode cX4_ringPlace 41 = .ok (.iload_n 1, 1) := by decide +kernel
theorem dX4_ringPlace_42 : decode cX4_ringPlace 42 = .ok (.iaload, 1) := by decide +kernel
theorem dX4_ringPlace_43 : decode cX4_ringPlace 43 = .ok (.invokevirtual 101, 3) := by decide +kernel
theorem dX4_ringPlace_46 : decode cX4_ringPlace 46 = .ok (.ifCond .eq 10, 3) := by decide +kernel
theorem dX4_ringPlace_49 : decode cX4_ringPlace 49 = .ok (.aload_n 0, 1) := by decide +kernel
theorem dX4_ringPlace_50 : decode cX4_ringPlace 50 = .ok (.getfield 18, 3) := by decide +kernel
theorem dX4_ringPlace_53 : decode cX4_ringPlace 53 = .ok (.iload_n 1, 1) := by decide +kernel
theorem dX4_ringPlace_54 : decode cX4_ringPlace 54 = .ok (.iaload, 1) := by decide +kernel
theorem dX4_ringPlace_55 : decode cX4_ringPlace 55 = .ok (.ireturn, 1) := by decide +kernel
theorem dX4_ringPlace_56 : decode cX4_ringPlace 56 = .ok (.iinc 1 1, 3) := by decide +kernel
theorem dX4_ringPlace_59 : decode cX4_ringPlace 59 = .ok (.goto (-57), 3) := by decide +kernel
theorem dX4_ringPlace_62 : decode cX4_ringPlace 62 = .ok (.iconst (-1), 1) := by decide +kernel
theorem dX4_ringPlace_63 : decode cX4_ringPlace 63 = .ok (.ireturn, 1) := by decide +kernel
theorem dX4_arrange_0 : decode cX4_arrange 0 = .ok (.iconst 0, 1) := by decide +kernel
theorem dX4_arrange_1 : decode cX4_arrange 1 = .ok (.istore_n 1, 1) := by decide +kernel
theorem dX4_arrange_2 : decode cX4_arrange 2 = .ok (.iconst 0, 1) := by decide +kernel
theorem dX4_arrange_3 : decode cX4_arrange 3 = .ok (.istore_n 2, 1) := by decide +kernel
theorem dX4_arrange_4 : decode cX4_arrange 4 = .ok (.iload_n 2, 1) := by decide +kernel
theorem dX4_arrange_5 : decode cX4_arrange 5 = .ok (.bipush 26, 2) := by decide +kernel
theorem dX4_arrange_7 : decode cX4_arrange 7 = .ok (.if_icmp .ge 68, 3) := by decide +kernel
theorem dX4_arrange_10 : decode cX4_arrange 10 = .ok (.iconst 0, 1) := by decide +kernel
theorem dX4_arrange_11 : decode cX4_arrange 11 = .ok (.istore_n 3, 1) := by decide +kernel
theorem dX4_arrange_12 : decode cX4_arrange 12 = .ok (.iload_n 3, 1) := by decide +kernel
theorem dX4_arrange_13 : decode cX4_arrange 13 = .ok (.aload_n 0, 1) := by decide +kernel
theorem dX4_arrange_14 : decode cX4_arrange 14 = .ok (.getfield 12, 3) := by decide +kernel
theorem dX4_arrange_17 : decode cX4_arrange 17 = .ok (.getfield 29, 3) := by decide +kernel
theorem dX4_arrange_20 : decode cX4_arrange 20 = .ok (.if_icmp .ge 49, 3) := by decide +kernel
theorem dX4_arrange_23 : decode cX4_arrange 23 = .ok (.iload_n 1, 1) := by decide +kernel
theorem dX4_arrange_24 : decode cX4_arrange 24 = .ok (.bipush 60, 2) := by decide +kernel
theorem dX4_arrange_26 : decode cX4_arrange 26 = .ok (.if_icmp .ge 37, 3) := by decide +kernel
theorem dX4_arrange_29 : decode cX4_arrange 29 = .ok (.aload_n 0, 1) := by decide +kernel
theorem dX4_arrange_30 : decode cX4_arrange 30 = .ok (.getfield 22, 3) := by decide +kernel
theorem dX4_arrange_33 : decode cX4_arrange 33 = .ok (.aload_n 0, 1) := by decide +kernel
theorem dX4_arrange_34 : decode cX4_arrange 34 = .ok (.getfield 12, 3) := by decide +kernel
theorem dX4_arrange_37 : decode cX4_arrange 37 = .ok (.getfield 64, 3) := by decide +kernel
theorem dX4_arrange_40 : decode cX4_arrange 40 = .ok (.iload_n 3, 1) := by decide +kernel
theorem dX4_arrange_41 : decode cX4_arrange 41 = .ok (.iaload, 1) := by decide +kernel
theorem dX4_arrange_42 : decode cX4_arrange 42 = .ok (.iaload, 1) := by decide +kernel
theorem dX4_arrange_43 : decode cX4_arrange 43 = .ok (.invokestatic 105, 3) := by decide +kernel
theorem dX4_arrange_46 : decode cX4_arrange 46 = .ok (.iload_n 2, 1) := by decide +kernel
theorem dX4_arrange_47 : decode cX4_arrange 47 = .ok (.if_icmp .ne 16, 3) := by decide +kernel
theorem dX4_arrange_50 : decode cX4_arrange 50 = .ok (.aload_n 0, 1) := by decide +kernel
theorem dX4_arrange_51 : decode cX4_arrange 51 = .ok (.getfield 12, 3) := by decide +kernel
theorem dX4_arrange_54 : decode cX4_arrange 54 = .ok (.getfield 110, 3) := by decide +kernel
theorem dX4_arrange_57 : decode cX4_arrange 57 = .ok (.iload_n 1, 1) := by decide +kernel
theorem dX4_arrange_58 : decode cX4_arrange 58 = .ok (.iload_n 3, 1) := by decide +kernel
theorem dX4_arrange_59 : decode cX4_arrange 59 = .ok (.iastore, 1) := by decide +kernel
theorem dX4_arrange_60 : decode cX4_arrange 60 = .ok (.iinc 1 1, 3) := by decide +kernel
theorem dX4_arrange_63 : decode cX4_arrange 63 = .ok (.iinc 3 1, 3) := by decide +kernel
theorem dX4_arrange_66 : decode cX4_arrange 66 = .ok (.goto (-54), 3) := by decide +kernel
theorem dX4_arrange_69 : decode cX4_arrange 69 = .ok (.iinc 2 1, 3) := by decide +kernel
theorem dX4_arrange_72 : decode cX4_arrange 72 = .ok (.goto (-68), 3) := by decide +kernel
theorem dX4_arrange_75 : decode cX4_arrange 75 = .ok (.return_, 1) := by decide +kernel
theorem dX5_init_0 : decode cX5_init 0 = .ok (.aload_n 0, 1) := by decide +kernel
theorem dX5_init_1 : decode cX5_init 1 = .ok (.invokespecial 3, 3) := by decide +kernel
theorem dX5_init_4 : decode cX5_init 4 = .ok (.aload_n 0, 1) := by decide +kernel
theorem dX5_init_5 : decode cX5_init 5 = .ok (.bipush 24, 2) := by decide +kernel
theorem dX5_init_7 : decode cX5_init 7 = .ok (.newarray .int, 2) := by decide +kernel
theorem dX5_init_9 : decode cX5_init 9 = .ok (.putfield 9, 3) := by decide +kernel
theorem dX5_init_12 : decode cX5_init 12 = .ok (.aload_n 0, 1) := by decide +kernel
theorem dX5_init_13 : decode cX5_init 13 = .ok (.bipush 24, 2) := by decide +kernel
theorem dX5_init_15 : decode cX5_init 15 = .ok (.newarray .int, 2) := by decide +kernel
theorem dX5_init_17 : decode cX5_init 17 = .ok (.putfield 15, 3) := by decide +kernel
theorem dX5_init_20 : decode cX5_init 20 = .ok (.aload_n 0, 1) := by decide +kernel
theorem dX5_init_21 : decode cX5_init 21 = .ok (.bipush 24, 2) := by decide +kernel
theorem dX5_init_23 : decode cX5_init 23 = .ok (.newarray .int, 2) := by decide +kernel
theorem dX5_init_25 : decode cX5_init 25 = .ok (.putfield 18, 3) := by decide +kernel
theorem dX5_init_28 : decode cX5_init 28 = .ok (.aload_n 0, 1) := by decide +kernel
theorem dX5_init_29 : decode cX5_init 29 = .ok (.iconst 0, 1) := by decide +kernel
theorem dX5_init_30 : decode cX5_init 30 = .ok (.putfield 21, 3) := by decide +kernel
theorem dX5_init_33 : decode cX5_init 33 = .ok (.return_, 1) := by decide +kernel
theorem dX5_has_0 : decode cX5_has 0 = .ok (.iload_n 1, 1) := by decide +kernel
theorem dX5_has_1 : decode cX5_has 1 = .ok (.ifCond .lt 15, 3) := by decide +kernel
theorem dX5_has_4 : decode cX5_has 4 = .ok (.iload_n 1, 1) := by decide +kernel
theorem dX5_has_5 : decode cX5_has 5 = .ok (.aload_n 0, 1) := by decide +kernel
theorem dX5_has_6 : decode cX5_has 6 = .ok (.getfield 21, 3) := by decide +kernel
theorem dX5_has_9 : decode cX5_has 9 = .ok (.if_icmp .ge 7, 3) := by decide +kernel
theorem dX5_has_12 : decode cX5_has 12 = .ok (.iconst 1, 1) := by decide +kernel
theorem dX5_has_13 : decode cX5_has 13 = .ok (.goto 4, 3) := by decide +kernel
theorem dX5_has_16 : decode cX5_has 16 = .ok (.iconst 0, 1) := by decide +kernel
theorem dX5_has_17 : decode cX5_has 17 = .ok (.ireturn, 1) := by decide +kernel
theorem dX5_add_0 : decode cX5_add 0 = .ok (.aload_n 0, 1) := by decide +kernel
theorem dX5_add_1 : decode cX5_add 1 = .ok (.getfield 21, 3) := by decide +kernel
theorem dX5_add_4 : decode cX5_add 4 = .ok (.bipush 24, 2) := by decide +kernel
theorem dX5_add_6 : decode cX5_add 6 = .ok (.if_icmp .ge 26, 3) := by decide +kernel
theorem dX5_add_9 : decode cX5_add 9 = .ok (.iload_n 1, 1) := by decide +kernel
theorem dX5_add_10 : decode cX5_add 10 = .ok (.iconst 1, 1) := by decide +kernel
theorem dX5_add_11 : decode cX5_add 11 = .ok (.if_icmp .lt 21, 3) := by decide +kernel
theorem dX5_add_14 : decode cX5_add 14 = .ok (.iload_n 1, 1) := by decide +kernel
theorem dX5_add_15 : decode cX5_add 15 = .ok (.sipush 4095, 3) := by decide +kernel
theorem dX5_add_18 : decode cX5_add 18 = .ok (.if_icmp .gt 14, 3) := by decide +kernel
theorem dX5_add_21 : decode cX5_add 21 = .ok (.iload_n 3, 1) := by decide +kernel
theorem dX5_add_22 : decode cX5_add 22 = .ok (.iconst (-1), 1) := by decide +kernel
theorem dX5_add_23 : decode cX5_add 23 = .ok (.if_icmp .lt 9, 3) := by decide +kernel
theorem dX5_add_26 : decode cX5_add 26 = .ok (.iload_n 3, 1) := by decide +kernel
theorem dX5_add_27 : decode cX5_add 27 = .ok (.bipush 127, 2) := by decide +kernel
theorem dX5_add_29 : decode cX5_add 29 = .ok (.if_icmp .le 5, 3) := by decide +kernel
theorem dX5_add_32 : decode cX5_add 32 = .ok (.iconst (-1), 1) := by decide +kernel
theorem dX5_add_33 : decode cX5_add 33 = .ok (.ireturn, 1) := by decide +kernel
theorem dX5_add_34 : decode cX5_add 34 = .ok (.iload_n 2, 1) := by decide +kernel
theorem dX5_add_35 : decode cX5_add 35 = .ok (.iconst (-1), 1) := by decide +kernel
theorem dX5_add_36 : decode cX5_add 36 = .ok (.if_icmp .eq 23, 3) := by decide +kernel
theorem dX5_add_39 : decode cX5_add 39 = .ok (.iload_n 2, 1) := by decide +kernel
theorem dX5_add_40 : decode cX5_add 40 = .ok (.ifCond .lt 17, 3) := by decide +kernel
theorem dX5_add_43 : decode cX5_add 43 = .ok (.iload_n 2, 1) := by decide +kernel
theorem dX5_add_44 : decode cX5_add 44 = .ok (.bipush 12, 2) := by decide +kernel
theorem dX5_add_46 : decode cX5_add 46 = .ok (.if_icmp .ge 11, 3) := by decide +kernel
theorem dX5_add_49 : decode cX5_add 49 = .ok (.iload_n 1, 1) := by decide +kernel
theorem dX5_add_50 : decode cX5_add 50 = .ok (.iload_n 2, 1) := by decide +kernel
theorem dX5_add_51 : decode cX5_add 51 = .ok (.iushr, 1) := by decide +kernel
theorem dX5_add_52 : decode cX5_add 52 = .ok (.iconst 1, 1) := by decide +kernel
theorem dX5_add_53 : decode cX5_add 53 = .ok (.iand, 1) := by decide +kernel
theorem dX5_add_54 : decode cX5_add 54 = .ok (.ifCond .ne 5, 3) := by decide +kernel
theorem dX5_add_57 : decode cX5_add 57 = .ok (.iconst (-1), 1) := by decide +kernel
theorem dX5_add_58 : decode cX5_add 58 = .ok (.ireturn, 1) := by decide +kernel
theorem dX5_add_59 : decode cX5_add 59 = .ok (.aload_n 0, 1) := by decide +kernel
theorem dX5_add_60 : decode cX5_add 60 = .ok (.getfield 9, 3) := by decide +kernel
theorem dX5_add_63 : decode cX5_add 63 = .ok (.aload_n 0, 1) := by decide +kernel
theorem dX5_add_64 : decode cX5_add 64 = .ok (.getfield 21, 3) := by decide +kernel
theorem dX5_add_67 : decode cX5_add 67 = .ok (.iload_n 1, 1) := by decide +kernel
theorem dX5_add_68 : decode cX5_add 68 = .ok (.iastore, 1) := by decide +kernel
theorem dX5_add_69 : decode cX5_add 69 = .ok (.aload_n 0, 1) := by decide +kernel
theorem dX5_add_70 : decode cX5_add 70 = .ok (.getfield 15, 3) := by decide +kernel
theorem dX5_add_73 : decode cX5_add 73 = .ok (.aload_n 0, 1) := by decide +kernel
theorem dX5_add_74 : decode cX5_add 74 = .ok (.getfield 21, 3) := by decide +kernel
theorem dX5_add_77 : decode cX5_add 77 = .ok (.iload_n 2, 1) := by decide +kernel
theorem dX5_add_78 : decode cX5_add 78 = .ok (.iastore, 1) := by decide +kernel
theorem dX5_add_79 : decode cX5_add 79 = .ok (.aload_n 0, 1) := by decide +kernel
theorem dX5_add_80 : decode cX5_add 80 = .ok (.getfield 18, 3) := by decide +kernel
theorem dX5_add_83 : decode cX5_add 83 = .ok (.aload_n 0, 1) := by decide +kernel
theorem dX5_add_84 : decode cX5_add 84 = .ok (.getfield 21, 3) := by decide +kernel
theorem dX5_add_87 : decode cX5_add 87 = .ok (.iload_n 3, 1) := by decide +kernel
theorem dX5_add_88 : decode cX5_add 88 = .ok (.iastore, 1) := by decide +kernel
theorem dX5_add_89 : decode cX5_add 89 = .ok (.aload_n 0, 1) := by decide +kernel
theorem dX5_add_90 : decode cX5_add 90 = .ok (.dup, 1) := by decide +kernel
theorem dX5_add_91 : decode cX5_add 91 = .ok (.getfield 21, 3) := by decide +kernel
theorem dX5_add_94 : decode cX5_add 94 = .ok (.iconst 1, 1) := by decide +kernel
theorem dX5_add_95 : decode cX5_add 95 = .ok (.iadd, 1) := by decide +kernel
theorem dX5_add_96 : decode cX5_add 96 = .ok (.putfield 21, 3) := by decide +kernel
theorem dX5_add_99 : decode cX5_add 99 = .ok (.aload_n 0, 1) := by decide +kernel
theorem dX5_add_100 : decode cX5_add 100 = .ok (.getfield 21, 3) := by decide +kernel
theorem dX5_add_103 : decode cX5_add 103 = .ok (.iconst 1, 1) := by decide +kernel
theorem dX5_add_104 : decode cX5_add 104 = .ok (.isub, 1) := by decide +kernel
theorem dX5_add_105 : decode cX5_add 105 = .ok (.ireturn, 1) := by decide +kernel
theorem dX6_init_0 : decode cX6_init 0 = .ok (.aload_n 0, 1) := by decide +kernel
theorem dX6_init_1 : decode cX6_init 1 = .ok (.invokespecial 3, 3) := by decide +kernel
theorem dX6_init_4 : decode cX6_init 4 = .ok (.aload_n 0, 1) := by decide +kernel
theorem dX6_init_5 : decode cX6_init 5 = .ok (.sipush 1680, 3) := by decide +kernel
theorem dX6_init_8 : decode cX6_init 8 = .ok (.newarray .int, 2) := by decide +kernel
theorem dX6_init_10 : decode cX6_init 10 = .ok (.putfield 9, 3) := by decide +kernel
theorem dX6_init_13 : decode cX6_init 13 = .ok (.aload_n 0, 1) := by decide +kernel
theorem dX6_init_14 : decode cX6_init 14 = .ok (.sipush 1680, 3) := by decide +kernel
theorem dX6_init_17 : decode cX6_init 17 = .ok (.newarray .int, 2) := by decide +kernel
theorem dX6_init_19 : decode cX6_init 19 = .ok (.putfield 15, 3) := by decide +kernel
theorem dX6_init_22 : decode cX6_init 22 = .ok (.return_, 1) := by decide +kernel
theorem dX6_fill_0 : decode cX6_fill 0 = .ok (.iconst 0, 1) := by decide +kernel
theorem dX6_fill_1 : decode cX6_fill 1 = .ok (.istore 4, 2) := by decide +kernel
theorem dX6_fill_3 : decode cX6_fill 3 = .ok (.iload 4, 2) := by decide +kernel
theorem dX6_fill_5 : decode cX6_fill 5 = .ok (.aload_n 1, 1) := by decide +kernel
theorem dX6_fill_6 : decode cX6_fill 6 = .ok (.getfield 18, 3) := by decide +kernel
theorem dX6_fill_9 : decode cX6_fill 9 = .ok (.if_icmp .ge 41, 3) := by decide +kernel
theorem dX6_fill_12 : decode cX6_fill 12 = .ok (.iconst 0, 1) := by decide +kernel
theorem dX6_fill_13 : decode cX6_fill 13 = .ok (.istore 5, 2) := by decide +kernel
theorem dX6_fill_15 : decode cX6_fill 15 = .ok (.iload 5, 2) := by decide +kernel
theorem dX6_fill_17 : decode cX6_fill 17 = .ok (.bipush 7, 2) := by decide +kernel
theorem dX6_fill_19 : decode cX6_fill 19 = .ok (.if_icmp .ge 25, 3) := by decide +kernel
theorem dX6_fill_22 : decode cX6_fill 22 = .ok (.aload_n 0, 1) := by decide +kernel
theorem dX6_fill_23 : decode cX6_fill 23 = .ok (.aload_n 1, 1) := by decide +kernel
theorem dX6_fill_24 : decode cX6_fill 24 = .ok (.iload 4, 2) := by decide +kernel
theorem dX6_fill_26 : decode cX6_fill 26 = .ok (.iload 5, 2) := by decide +kernel
theorem dX6_fill_28 : decode cX6_fill 28 = .ok (.aload_n 2, 1) := by decide +kernel
theorem dX6_fill_29 : decode cX6_fill 29 = .ok (.iload 5, 2) := by decide +kernel
theorem dX6_fill_31 : decode cX6_fill 31 = .ok (.invokevirtual 24, 3) := by decide +kernel
theorem dX6_fill_34 : decode cX6_fill 34 = .ok (.aload_n 3, 1) := by decide +kernel
theorem dX6_fill_35 : decode cX6_fill 35 = .ok (.invokevirtual 30, 3) := by decide +kernel
theorem dX6_fill_38 : decode cX6_fill 38 = .ok (.iinc 5 1, 3) := by decide +kernel
theorem dX6_fill_41 : decode cX6_fill 41 = .ok (.goto (-26), 3) := by decide +kernel
theorem dX6_fill_44 : decode cX6_fill 44 = .ok (.iinc 4 1, 3) := by decide +kernel
theorem dX6_fill_47 : decode cX6_fill 47 = .ok (.goto (-44), 3) := by decide +kernel
theorem dX6_fill_50 : decode cX6_fill 50 = .ok (.return_, 1) := by decide +kernel
theorem dX6_fillDegree_0 : decode cX6_fillDegree 0 = .ok (.iload_n 2, 1) := by decide +kernel
theorem dX6_fillDegree_1 : decode cX6_fillDegree 1 = .ok (.bipush 70, 2) := by decide +kernel
theorem dX6_fillDegree_3 : decode cX6_fillDegree 3 = .ok (.imul, 1) := by decide +kernel
theorem dX6_fillDegree_4 : decode cX6_fillDegree 4 = .ok (.iload_n 3, 1) := by decide +kernel
theorem dX6_fillDegree_5 : decode cX6_fillDegree 5 = .ok (.bipush 10, 2) := by decide +kernel
theorem dX6_fillDegree_7 : decode cX6_fillDegree 7 = .ok (.imul, 1) := by decide +kernel
theorem dX6_fillDegree_8 : decode cX6_fillDegree 8 = .ok (.iadd, 1) := by decide +kernel
theorem dX6_fillDegree_9 : decode cX6_fillDegree 9 = .ok (.istore 6, 2) := by decide +kernel
theorem dX6_fillDegree_11 : decode cX6_fillDegree 11 = .ok (.iload 6, 2) := by decide +kernel
theorem dX6_fillDegree_13 : decode cX6_fillDegree 13 = .ok (.bipush 9, 2) := by decide +kernel
theorem dX6_fillDegree_15 : decode cX6_fillDegree 15 = .ok (.iadd, 1) := by decide +kernel
theorem dX6_fillDegree_16 : decode cX6_fillDegree 16 = .ok (.istore 7, 2) := by decide +kernel
theorem dX6_fillDegree_18 : decode cX6_fillDegree 18 = .ok (.aload_n 0, 1) := by decide +kernel
theorem dX6_fillDegree_19 : decode cX6_fillDegree 19 = .ok (.getfield 9, 3) := by decide +kernel
theorem dX6_fillDegree_22 : decode cX6_fillDegree 22 = .ok (.iload 7, 2) := by decide +kernel
theorem dX6_fillDegree_24 : decode cX6_fillDegree 24 = .ok (.iconst (-1), 1) := by decide +kernel
theorem dX6_fillDegree_25 : decode cX6_fillDegree 25 = .ok (.iastore, 1) := by decide +kernel
theorem dX6_fillDegree_26 : decode cX6_fillDegree 26 = .ok (.aload_n 0, 1) := by decide +kernel
theorem dX6_fillDegree_27 : decode cX6_fillDegree 27 = .ok (.getfield 15, 3) := by decide +kernel
theorem dX6_fillDegree_30 : decode cX6_fillDegree 30 = .ok (.iload 7, 2) := by decide +kernel
theorem dX6_fillDegree_32 : decode cX6_fillDegree 32 = .ok (.iconst (-1), 1) := by decide +kernel
theorem dX6_fillDegree_33 : decode cX6_fillDegree 33 = .ok (.iastore, 1) := by decide +kernel
theorem dX6_fillDegree_34 : decode cX6_fillDegree 34 = .ok (.iconst 0, 1) := by decide +kernel
theorem dX6_fillDegree_35 : decode cX6_fillDegree 35 = .ok (.istore 8, 2) := by decide +kernel
theorem dX6_fillDegree_37 : decode cX6_fillDegree 37 = .ok (.iload 8, 2) := by decide +kernel
theorem dX6_fillDegree_39 : decode cX6_fillDegree 39 = .ok (.bipush 9, 2) := by decide +kernel
theorem dX6_fillDegree_41 : decode cX6_fillDegree 41 = .ok (.if_icmp .ge 123, 3) := by decide +kernel
theorem dX6_fillDegree_44 : decode cX6_fillDegree 44 = .ok (.aload 5, 2) := by decide +kernel
theorem dX6_fillDegree_46 : decode cX6_fillDegree 46 = .ok (.aload_n 1, 1) := by decide +kernel
theorem dX6_fillDegree_47 : decode cX6_fillDegree 47 = .ok (.getfield 34, 3) := by decide +kernel
theorem dX6_fillDegree_50 : decode cX6_fillDegree 50 = .ok (.iload_n 2, 1) := by decide +kernel
theorem dX6_fillDegree_51 : decode cX6_fillDegree 51 = .ok (.iaload, 1) := by decide +kernel
theorem dX6_fillDegree_52 : decode cX6_fillDegree 52 = .ok (.aload_n 1, 1) := by decide +kernel
theorem dX6_fillDegree_53 : decode cX6_fillDegree 53 = .ok (.getfield 37, 3) := by decide +kernel
end
section
theorem dX6_fillDegree_56 : decode cX6_fillDegree 56 = .ok (.iload_n 2, 1) := by decide +kernel
theorem dX6_fillDegree_57 : decode cX6_fillDegree 57 = .ok (.iaload, 1) := by decide +kernel
theorem dX6_fillDegree_58 : decode cX6_fillDegree 58 = .ok (.iload 4, 2) := by decide +kernel
theorem dX6_fillDegree_60 : decode cX6_fillDegree 60 = .ok (.iload 8, 2) := by decide +kernel
theorem dX6_fillDegree_62 : decode cX6_fillDegree 62 = .ok (.invokevirtual 40, 3) := by decide +kernel
theorem dX6_fillDegree_65 : decode cX6_fillDegree 65 = .ok (.istore 9, 2) := by decide +kernel
theorem dX6_fillDegree_67 : decode cX6_fillDegree 67 = .ok (.iload 9, 2) := by decide +kernel
theorem dX6_fillDegree_69 : decode cX6_fillDegree 69 = .ok (.iconst (-1), 1) := by decide +kernel
theorem dX6_fillDegree_70 : decode cX6_fillDegree 70 = .ok (.if_icmp .ne 7, 3) := by decide +kernel
theorem dX6_fillDegree_73 : decode cX6_fillDegree 73 = .ok (.iconst (-1), 1) := by decide +kernel
theorem dX6_fillDegree_74 : decode cX6_fillDegree 74 = .ok (.goto 11, 3) := by decide +kernel
theorem dX6_fillDegree_77 : decode cX6_fillDegree 77 = .ok (.bipush 12, 2) := by decide +kernel
theorem dX6_fillDegree_79 : decode cX6_fillDegree 79 = .ok (.iload 8, 2) := by decide +kernel
theorem dX6_fillDegree_81 : decode cX6_fillDegree 81 = .ok (.imul, 1) := by decide +kernel
theorem dX6_fillDegree_82 : decode cX6_fillDegree 82 = .ok (.iload 4, 2) := by decide +kernel
theorem dX6_fillDegree_84 : decode cX6_fillDegree 84 = .ok (.iadd, 1) := by decide +kernel
theorem dX6_fillDegree_85 : decode cX6_fillDegree 85 = .ok (.istore 10, 2) := by decide +kernel
theorem dX6_fillDegree_87 : decode cX6_fillDegree 87 = .ok (.aload_n 0, 1) := by decide +kernel
theorem dX6_fillDegree_88 : decode cX6_fillDegree 88 = .ok (.getfield 9, 3) := by decide +kernel
theorem dX6_fillDegree_91 : decode cX6_fillDegree 91 = .ok (.iload 6, 2) := by decide +kernel
theorem dX6_fillDegree_93 : decode cX6_fillDegree 93 = .ok (.iload 8, 2) := by decide +kernel
theorem dX6_fillDegree_95 : decode cX6_fillDegree 95 = .ok (.iadd, 1) := by decide +kernel
theorem dX6_fillDegree_96 : decode cX6_fillDegree 96 = .ok (.iload 10, 2) := by decide +kernel
theorem dX6_fillDegree_98 : decode cX6_fillDegree 98 = .ok (.iastore, 1) := by decide +kernel
theorem dX6_fillDegree_99 : decode cX6_fillDegree 99 = .ok (.aload_n 0, 1) := by decide +kernel
theorem dX6_fillDegree_100 : decode cX6_fillDegree 100 = .ok (.getfield 15, 3) := by decide +kernel
theorem dX6_fillDegree_103 : decode cX6_fillDegree 103 = .ok (.iload 6, 2) := by decide +kernel
theorem dX6_fillDegree_105 : decode cX6_fillDegree 105 = .ok (.iload 8, 2) := by decide +kernel
theorem dX6_fillDegree_107 : decode cX6_fillDegree 107 = .ok (.iadd, 1) := by decide +kernel
theorem dX6_fillDegree_108 : decode cX6_fillDegree 108 = .ok (.iload 9, 2) := by decide +kernel
theorem dX6_fillDegree_110 : decode cX6_fillDegree 110 = .ok (.iastore, 1) := by decide +kernel
theorem dX6_fillDegree_111 : decode cX6_fillDegree 111 = .ok (.iload 10, 2) := by decide +kernel
theorem dX6_fillDegree_113 : decode cX6_fillDegree 113 = .ok (.iconst (-1), 1) := by decide +kernel
theorem dX6_fillDegree_114 : decode cX6_fillDegree 114 = .ok (.if_icmp .eq 44, 3) := by decide +kernel
theorem dX6_fillDegree_117 : decode cX6_fillDegree 117 = .ok (.aload_n 0, 1) := by decide +kernel
theorem dX6_fillDegree_118 : decode cX6_fillDegree 118 = .ok (.getfield 9, 3) := by decide +kernel
theorem dX6_fillDegree_121 : decode cX6_fillDegree 121 = .ok (.iload 7, 2) := by decide +kernel
theorem dX6_fillDegree_123 : decode cX6_fillDegree 123 = .ok (.iaload, 1) := by decide +kernel
theorem dX6_fillDegree_124 : decode cX6_fillDegree 124 = .ok (.iconst (-1), 1) := by decide +kernel
theorem dX6_fillDegree_125 : decode cX6_fillDegree 125 = .ok (.if_icmp .eq 15, 3) := by decide +kernel
theorem dX6_fillDegree_128 : decode cX6_fillDegree 128 = .ok (.iload 9, 2) := by decide +kernel
theorem dX6_fillDegree_130 : decode cX6_fillDegree 130 = .ok (.aload_n 0, 1) := by decide +kernel
theorem dX6_fillDegree_131 : decode cX6_fillDegree 131 = .ok (.getfield 15, 3) := by decide +kernel
theorem dX6_fillDegree_134 : decode cX6_fillDegree 134 = .ok (.iload 7, 2) := by decide +kernel
theorem dX6_fillDegree_136 : decode cX6_fillDegree 136 = .ok (.iaload, 1) := by decide +kernel
theorem dX6_fillDegree_137 : decode cX6_fillDegree 137 = .ok (.if_icmp .ge 21, 3) := by decide +kernel
theorem dX6_fillDegree_140 : decode cX6_fillDegree 140 = .ok (.aload_n 0, 1) := by decide +kernel
theorem dX6_fillDegree_141 : decode cX6_fillDegree 141 = .ok (.getfield 9, 3) := by decide +kernel
theorem dX6_fillDegree_144 : decode cX6_fillDegree 144 = .ok (.iload 7, 2) := by decide +kernel
theorem dX6_fillDegree_146 : decode cX6_fillDegree 146 = .ok (.iload 10, 2) := by decide +kernel
theorem dX6_fillDegree_148 : decode cX6_fillDegree 148 = .ok (.iastore, 1) := by decide +kernel
theorem dX6_fillDegree_149 : decode cX6_fillDegree 149 = .ok (.aload_n 0, 1) := by decide +kernel
theorem dX6_fillDegree_150 : decode cX6_fillDegree 150 = .ok (.getfield 15, 3) := by decide +kernel
theorem dX6_fillDegree_153 : decode cX6_fillDegree 153 = .ok (.iload 7, 2) := by decide +kernel
theorem dX6_fillDegree_155 : decode cX6_fillDegree 155 = .ok (.iload 9, 2) := by decide +kernel
theorem dX6_fillDegree_157 : decode cX6_fillDegree 157 = .ok (.iastore, 1) := by decide +kernel
theorem dX6_fillDegree_158 : decode cX6_fillDegree 158 = .ok (.iinc 8 1, 3) := by decide +kernel
theorem dX6_fillDegree_161 : decode cX6_fillDegree 161 = .ok (.goto (-124), 3) := by decide +kernel
theorem dX6_fillDegree_164 : decode cX6_fillDegree 164 = .ok (.return_, 1) := by decide +kernel
theorem dX7_init_0 : decode cX7_init 0 = .ok (.aload_n 0, 1) := by decide +kernel
theorem dX7_init_1 : decode cX7_init 1 = .ok (.invokespecial 3, 3) := by decide +kernel
theorem dX7_init_4 : decode cX7_init 4 = .ok (.aload_n 0, 1) := by decide +kernel
theorem dX7_init_5 : decode cX7_init 5 = .ok (.iconst 4, 1) := by decide +kernel
theorem dX7_init_6 : decode cX7_init 6 = .ok (.newarray .int, 2) := by decide +kernel
theorem dX7_init_8 : decode cX7_init 8 = .ok (.dup, 1) := by decide +kernel
theorem dX7_init_9 : decode cX7_init 9 = .ok (.iconst 0, 1) := by decide +kernel
theorem dX7_init_10 : decode cX7_init 10 = .ok (.iconst 4, 1) := by decide +kernel
theorem dX7_init_11 : decode cX7_init 11 = .ok (.iastore, 1) := by decide +kernel
theorem dX7_init_12 : decode cX7_init 12 = .ok (.dup, 1) := by decide +kernel
theorem dX7_init_13 : decode cX7_init 13 = .ok (.iconst 1, 1) := by decide +kernel
theorem dX7_init_14 : decode cX7_init 14 = .ok (.iconst 3, 1) := by decide +kernel
theorem dX7_init_15 : decode cX7_init 15 = .ok (.iastore, 1) := by decide +kernel
theorem dX7_init_16 : decode cX7_init 16 = .ok (.dup, 1) := by decide +kernel
theorem dX7_init_17 : decode cX7_init 17 = .ok (.iconst 2, 1) := by decide +kernel
theorem dX7_init_18 : decode cX7_init 18 = .ok (.iconst 1, 1) := by decide +kernel
theorem dX7_init_19 : decode cX7_init 19 = .ok (.iastore, 1) := by decide +kernel
theorem dX7_init_20 : decode cX7_init 20 = .ok (.dup, 1) := by decide +kernel
theorem dX7_init_21 : decode cX7_init 21 = .ok (.iconst 3, 1) := by decide +kernel
theorem dX7_init_22 : decode cX7_init 22 = .ok (.iconst 5, 1) := by decide +kernel
theorem dX7_init_23 : decode cX7_init 23 = .ok (.iastore, 1) := by decide +kernel
theorem dX7_init_24 : decode cX7_init 24 = .ok (.putfield 9, 3) := by decide +kernel
theorem dX7_init_27 : decode cX7_init 27 = .ok (.return_, 1) := by decide +kernel
theorem dX7_change_0 : decode cX7_change 0 = .ok (.iload_n 1, 1) := by decide +kernel
theorem dX7_change_1 : decode cX7_change 1 = .ok (.ifCond .lt 19, 3) := by decide +kernel
theorem dX7_change_4 : decode cX7_change 4 = .ok (.iload_n 1, 1) := by decide +kernel
theorem dX7_change_5 : decode cX7_change 5 = .ok (.iconst 4, 1) := by decide +kernel
theorem dX7_change_6 : decode cX7_change 6 = .ok (.if_icmp .ge 14, 3) := by decide +kernel
theorem dX7_change_9 : decode cX7_change 9 = .ok (.iload_n 2, 1) := by decide +kernel
theorem dX7_change_10 : decode cX7_change 10 = .ok (.ifCond .lt 10, 3) := by decide +kernel
theorem dX7_change_13 : decode cX7_change 13 = .ok (.iload_n 2, 1) := by decide +kernel
theorem dX7_change_14 : decode cX7_change 14 = .ok (.sipush 1000, 3) := by decide +kernel
theorem dX7_change_17 : decode cX7_change 17 = .ok (.if_icmp .le 5, 3) := by decide +kernel
theorem dX7_change_20 : decode cX7_change 20 = .ok (.iconst 0, 1) := by decide +kernel
theorem dX7_change_21 : decode cX7_change 21 = .ok (.ireturn, 1) := by decide +kernel
theorem dX7_change_22 : decode cX7_change 22 = .ok (.aload_n 0, 1) := by decide +kernel
theorem dX7_change_23 : decode cX7_change 23 = .ok (.getfield 9, 3) := by decide +kernel
theorem dX7_change_26 : decode cX7_change 26 = .ok (.iload_n 1, 1) := by decide +kernel
theorem dX7_change_27 : decode cX7_change 27 = .ok (.iload_n 2, 1) := by decide +kernel
theorem dX7_change_28 : decode cX7_change 28 = .ok (.iastore, 1) := by decide +kernel
theorem dX7_change_29 : decode cX7_change 29 = .ok (.iconst 1, 1) := by decide +kernel
theorem dX7_change_30 : decode cX7_change 30 = .ok (.ireturn, 1) := by decide +kernel
theorem dX7_ofFit_0 : decode cX7_ofFit 0 = .ok (.iload_n 3, 1) := by decide +kernel
theorem dX7_ofFit_1 : decode cX7_ofFit 1 = .ok (.iload 4, 2) := by decide +kernel
theorem dX7_ofFit_3 : decode cX7_ofFit 3 = .ok (.invokestatic 15, 3) := by decide +kernel
theorem dX7_ofFit_6 : decode cX7_ofFit 6 = .ok (.istore 5, 2) := by decide +kernel
theorem dX7_ofFit_8 : decode cX7_ofFit 8 = .ok (.iload 5, 2) := by decide +kernel
theorem dX7_ofFit_10 : decode cX7_ofFit 10 = .ok (.iload_n 1, 1) := by decide +kernel
theorem dX7_ofFit_11 : decode cX7_ofFit 11 = .ok (.iand, 1) := by decide +kernel
theorem dX7_ofFit_12 : decode cX7_ofFit 12 = .ok (.invokestatic 19, 3) := by decide +kernel
theorem dX7_ofFit_15 : decode cX7_ofFit 15 = .ok (.istore 6, 2) := by decide +kernel
theorem dX7_ofFit_17 : decode cX7_ofFit 17 = .ok (.iload 6, 2) := by decide +kernel
theorem dX7_ofFit_19 : decode cX7_ofFit 19 = .ok (.iconst 2, 1) := by decide +kernel
theorem dX7_ofFit_20 : decode cX7_ofFit 20 = .ok (.if_icmp .ge 5, 3) := by decide +kernel
theorem dX7_ofFit_23 : decode cX7_ofFit 23 = .ok (.iconst (-1), 1) := by decide +kernel
theorem dX7_ofFit_24 : decode cX7_ofFit 24 = .ok (.ireturn, 1) := by decide +kernel
theorem dX7_ofFit_25 : decode cX7_ofFit 25 = .ok (.iload_n 1, 1) := by decide +kernel
theorem dX7_ofFit_26 : decode cX7_ofFit 26 = .ok (.invokestatic 19, 3) := by decide +kernel
theorem dX7_ofFit_29 : decode cX7_ofFit 29 = .ok (.iload 6, 2) := by decide +kernel
theorem dX7_ofFit_31 : decode cX7_ofFit 31 = .ok (.isub, 1) := by decide +kernel
theorem dX7_ofFit_32 : decode cX7_ofFit 32 = .ok (.istore 7, 2) := by decide +kernel
theorem dX7_ofFit_34 : decode cX7_ofFit 34 = .ok (.iload 5, 2) := by decide +kernel
theorem dX7_ofFit_36 : decode cX7_ofFit 36 = .ok (.invokestatic 19, 3) := by decide +kernel
theorem dX7_ofFit_39 : decode cX7_ofFit 39 = .ok (.iload 6, 2) := by decide +kernel
theorem dX7_ofFit_41 : decode cX7_ofFit 41 = .ok (.isub, 1) := by decide +kernel
theorem dX7_ofFit_42 : decode cX7_ofFit 42 = .ok (.istore 8, 2) := by decide +kernel
theorem dX7_ofFit_44 : decode cX7_ofFit 44 = .ok (.iload 7, 2) := by decide +kernel
theorem dX7_ofFit_46 : decode cX7_ofFit 46 = .ok (.aload_n 0, 1) := by decide +kernel
theorem dX7_ofFit_47 : decode cX7_ofFit 47 = .ok (.getfield 9, 3) := by decide +kernel
theorem dX7_ofFit_50 : decode cX7_ofFit 50 = .ok (.iconst 0, 1) := by decide +kernel
theorem dX7_ofFit_51 : decode cX7_ofFit 51 = .ok (.iaload, 1) := by decide +kernel
theorem dX7_ofFit_52 : decode cX7_ofFit 52 = .ok (.imul, 1) := by decide +kernel
theorem dX7_ofFit_53 : decode cX7_ofFit 53 = .ok (.iload 8, 2) := by decide +kernel
theorem dX7_ofFit_55 : decode cX7_ofFit 55 = .ok (.aload_n 0, 1) := by decide +kernel
theorem dX7_ofFit_56 : decode cX7_ofFit 56 = .ok (.getfield 9, 3) := by decide +kernel
theorem dX7_ofFit_59 : decode cX7_ofFit 59 = .ok (.iconst 1, 1) := by decide +kernel
theorem dX7_ofFit_60 : decode cX7_ofFit 60 = .ok (.iaload, 1) := by decide +kernel
theorem dX7_ofFit_61 : decode cX7_ofFit 61 = .ok (.imul, 1) := by decide +kernel
theorem dX7_ofFit_62 : decode cX7_ofFit 62 = .ok (.iadd, 1) := by decide +kernel
theorem dX7_ofFit_63 : decode cX7_ofFit 63 = .ok (.aload_n 0, 1) := by decide +kernel
theorem dX7_ofFit_64 : decode cX7_ofFit 64 = .ok (.iload_n 2, 1) := by decide +kernel
theorem dX7_ofFit_65 : decode cX7_ofFit 65 = .ok (.iload_n 3, 1) := by decide +kernel
theorem dX7_ofFit_66 : decode cX7_ofFit 66 = .ok (.iload 5, 2) := by decide +kernel
theorem dX7_ofFit_68 : decode cX7_ofFit 68 = .ok (.invokevirtual 25, 3) := by decide +kernel
theorem dX7_ofFit_71 : decode cX7_ofFit 71 = .ok (.iadd, 1) := by decide +kernel
theorem dX7_ofFit_72 : decode cX7_ofFit 72 = .ok (.ireturn, 1) := by decide +kernel
theorem dX7_ofBass_0 : decode cX7_ofBass 0 = .ok (.iload_n 1, 1) := by decide +kernel
theorem dX7_ofBass_1 : decode cX7_ofBass 1 = .ok (.iconst (-1), 1) := by decide +kernel
theorem dX7_ofBass_2 : decode cX7_ofBass 2 = .ok (.if_icmp .eq 8, 3) := by decide +kernel
theorem dX7_ofBass_5 : decode cX7_ofBass 5 = .ok (.iload_n 1, 1) := by decide +kernel
theorem dX7_ofBass_6 : decode cX7_ofBass 6 = .ok (.iload_n 2, 1) := by decide +kernel
theorem dX7_ofBass_7 : decode cX7_ofBass 7 = .ok (.if_icmp .ne 5, 3) := by decide +kernel
theorem dX7_ofBass_10 : decode cX7_ofBass 10 = .ok (.iconst 0, 1) := by decide +kernel
theorem dX7_ofBass_11 : decode cX7_ofBass 11 = .ok (.ireturn, 1) := by decide +kernel
theorem dX7_ofBass_12 : decode cX7_ofBass 12 = .ok (.iload_n 3, 1) := by decide +kernel
theorem dX7_ofBass_13 : decode cX7_ofBass 13 = .ok (.iload_n 1, 1) := by decide +kernel
theorem dX7_ofBass_14 : decode cX7_ofBass 14 = .ok (.iushr, 1) := by decide +kernel
theorem dX7_ofBass_15 : decode cX7_ofBass 15 = .ok (.iconst 1, 1) := by decide +kernel
theorem dX7_ofBass_16 : decode cX7_ofBass 16 = .ok (.iand, 1) := by decide +kernel
theorem dX7_ofBass_17 : decode cX7_ofBass 17 = .ok (.ifCond .eq 12, 3) := by decide +kernel
theorem dX7_ofBass_20 : decode cX7_ofBass 20 = .ok (.aload_n 0, 1) := by decide +kernel
theorem dX7_ofBass_21 : decode cX7_ofBass 21 = .ok (.getfield 9, 3) := by decide +kernel
theorem dX7_ofBass_24 : decode cX7_ofBass 24 = .ok (.iconst 2, 1) := by decide +kernel
theorem dX7_ofBass_25 : decode cX7_ofBass 25 = .ok (.iaload, 1) := by decide +kernel
theorem dX7_ofBass_26 : decode cX7_ofBass 26 = .ok (.goto 9, 3) := by decide +kernel
theorem dX7_ofBass_29 : decode cX7_ofBass 29 = .ok (.aload_n 0, 1) := by decide +kernel
theorem dX7_ofBass_30 : decode cX7_ofBass 30 = .ok (.getfield 9, 3) := by decide +kernel
theorem dX7_ofBass_33 : decode cX7_ofBass 33 = .ok (.iconst 3, 1) := by decide +kernel
theorem dX7_ofBass_34 : decode cX7_ofBass 34 = .ok (.iaload, 1) := by decide +kernel
theorem dX7_ofBass_35 : decode cX7_ofBass 35 = .ok (.ireturn, 1) := by decide +kernel
theorem dX7_cheapest_0 : decode cX7_cheapest 0 = .ok (.iconst (-1), 1) := by decide +kernel
theorem dX7_cheapest_1 : decode cX7_cheapest 1 = .ok (.istore_n 3, 1) := by decide +kernel
theorem dX7_cheapest_2 : decode cX7_cheapest 2 = .ok (.ldc 29, 2) := by decide +kernel
theorem dX7_cheapest_4 : decode cX7_cheapest 4 = .ok (.istore 4, 2) := by decide +kernel
theorem dX7_cheapest_6 : decode cX7_cheapest 6 = .ok (.iconst 0, 1) := by decide +kernel
theorem dX7_cheapest_7 : decode cX7_cheapest 7 = .ok (.istore 5, 2) := by decide +kernel
theorem dX7_cheapest_9 : decode cX7_cheapest 9 = .ok (.iload 5, 2) := by decide +kernel
theorem dX7_cheapest_11 : decode cX7_cheapest 11 = .ok (.bipush 9, 2) := by decide +kernel
theorem dX7_cheapest_13 : decode cX7_cheapest 13 = .ok (.if_icmp .ge 63, 3) := by decide +kernel
theorem dX7_cheapest_16 : decode cX7_cheapest 16 = .ok (.iconst 0, 1) := by decide +kernel
theorem dX7_cheapest_17 : decode cX7_cheapest 17 = .ok (.istore 6, 2) := by decide +kernel
theorem dX7_cheapest_19 : decode cX7_cheapest 19 = .ok (.iload 6, 2) := by decide +kernel
theorem dX7_cheapest_21 : decode cX7_cheapest 21 = .ok (.bipush 12, 2) := by decide +kernel
theorem dX7_cheapest_23 : decode cX7_cheapest 23 = .ok (.if_icmp .ge 47, 3) := by decide +kernel
theorem dX7_cheapest_26 : decode cX7_cheapest 26 = .ok (.aload_n 0, 1) := by decide +kernel
theorem dX7_cheapest_27 : decode cX7_cheapest 27 = .ok (.iload_n 1, 1) := by decide +kernel
theorem dX7_cheapest_28 : decode cX7_cheapest 28 = .ok (.iload_n 2, 1) := by decide +kernel
theorem dX7_cheapest_29 : decode cX7_cheapest 29 = .ok (.iload 6, 2) := by decide +kernel
theorem dX7_cheapest_31 : decode cX7_cheapest 31 = .ok (.iload 5, 2) := by decide +kernel
theorem dX7_cheapest_33 : decode cX7_cheapest 33 = .ok (.invokevirtual 30, 3) := by decide +kernel
theorem dX7_cheapest_36 : decode cX7_cheapest 36 = .ok (.istore 7, 2) := by decide +kernel
theorem dX7_cheapest_38 : decode cX7_cheapest 38 = .ok (.iload 7, 2) := by decide +kernel
theorem dX7_cheapest_40 : decode cX7_cheapest 40 = .ok (.iconst (-1), 1) := by decide +kernel
theorem dX7_cheapest_41 : decode cX7_cheapest 41 = .ok (.if_icmp .eq 23, 3) := by decide +kernel
theorem dX7_cheapest_44 : decode cX7_cheapest 44 = .ok (.iload 7, 2) := by decide +kernel
theorem dX7_cheapest_46 : decode cX7_cheapest 46 = .ok (.iload 4, 2) := by decide +kernel
theorem dX7_cheapest_48 : decode cX7_cheapest 48 = .ok (.if_icmp .ge 16, 3) := by decide +kernel
theorem dX7_cheapest_51 : decode cX7_cheapest 51 = .ok (.iload 7, 2) := by decide +kernel
theorem dX7_cheapest_53 : decode cX7_cheapest 53 = .ok (.istore 4, 2) := by decide +kernel
theorem dX7_cheapest_55 : decode cX7_cheapest 55 = .ok (.bipush 12, 2) := by decide +kernel
theorem dX7_cheapest_57 : decode cX7_cheapest 57 = .ok (.iload 5, 2) := by decide +kernel
theorem dX7_cheapest_59 : decode cX7_cheapest 59 = .ok (.imul, 1) := by decide +kernel
theorem dX7_cheapest_60 : decode cX7_cheapest 60 = .ok (.iload 6, 2) := by decide +kernel
theorem dX7_cheapest_62 : decode cX7_cheapest 62 = .ok (.iadd, 1) := by decide +kernel
theorem dX7_cheapest_63 : decode cX7_cheapest 63 = .ok (.istore_n 3, 1) := by decide +kernel
theorem dX7_cheapest_64 : decode cX7_cheapest 64 = .ok (.iinc 6 1, 3) := by decide +kernel
theorem dX7_cheapest_67 : decode cX7_cheapest 67 = .ok (.goto (-48), 3) := by decide +kernel
theorem dX7_cheapest_70 : decode cX7_cheapest 70 = .ok (.iinc 5 1, 3) := by decide +kernel
theorem dX7_cheapest_73 : decode cX7_cheapest 73 = .ok (.goto (-64), 3) := by decide +kernel
theorem dX7_cheapest_76 : decode cX7_cheapest 76 = .ok (.iload_n 3, 1) := by decide +kernel
theorem dX7_cheapest_77 : decode cX7_cheapest 77 = .ok (.ireturn, 1) := by decide +kernel
theorem dX8_init_0 : decode cX8_init 0 = .ok (.aload_n 0, 1) := by decide +kernel
theorem dX8_init_1 : decode cX8_init 1 = .ok (.invokespecial 3, 3) := by decide +kernel
theorem dX8_init_4 : decode cX8_init 4 = .ok (.aload_n 0, 1) := by decide +kernel
theorem dX8_init_5 : decode cX8_init 5 = .ok (.iconst (-1), 1) := by decide +kernel
theorem dX8_init_6 : decode cX8_init 6 = .ok (.putfield 9, 3) := by decide +kernel
theorem dX8_init_9 : decode cX8_init 9 = .ok (.aload_n 0, 1) := by decide +kernel
theorem dX8_init_10 : decode cX8_init 10 = .ok (.iconst 0, 1) := by decide +kernel
theorem dX8_init_11 : decode cX8_init 11 = .ok (.putfield 15, 3) := by decide +kernel
theorem dX8_init_14 : decode cX8_init 14 = .ok (.aload_n 0, 1) := by decide +kernel
theorem dX8_init_15 : decode cX8_init 15 = .ok (.sipush 1246, 3) := by decide +kernel
theorem dX8_init_18 : decode cX8_init 18 = .ok (.newarray .int, 2) := by decide +kernel
theorem dX8_init_20 : decode cX8_init 20 = .ok (.putfield 18, 3) := by decide +kernel
theorem dX8_init_23 : decode cX8_init 23 = .ok (.aload_n 0, 1) := by decide +kernel
theorem dX8_init_24 : decode cX8_init 24 = .ok (.sipush 1246, 3) := by decide +kernel
theorem dX8_init_27 : decode cX8_init 27 = .ok (.newarray .int, 2) := by decide +kernel
theorem dX8_init_29 : decode cX8_init 29 = .ok (.putfield 22, 3) := by decide +kernel
theorem dX8_init_32 : decode cX8_init 32 = .ok (.aload_n 0, 1) := by decide +kernel
theorem dX8_init_33 : decode cX8_init 33 = .ok (.sipush 1246, 3) := by decide +kernel
theorem dX8_init_36 : decode cX8_init 36 = .ok (.newarray .int, 2) := by decide +kernel
theorem dX8_init_38 : decode cX8_init 38 = .ok (.putfield 25, 3) := by decide +kernel
theorem dX8_init_41 : decode cX8_init 41 = .ok (.aload_n 0, 1) := by decide +kernel
theorem dX8_init_42 : decode cX8_init 42 = .ok (.sipush 1246, 3) := by decide +kernel
theorem dX8_init_45 : decode cX8_init 45 = .ok (.newarray .int, 2) := by decide +kernel
theorem dX8_init_47 : decode cX8_init 47 = .ok (.putfield 28, 3) := by decide +kernel
theorem dX8_init_50 : decode cX8_init 50 = .ok (.aload_n 0, 1) := by decide +kernel
theorem dX8_init_51 : decode cX8_init 51 = .ok (.bipush 24, 2) := by decide +kernel
theorem dX8_init_53 : decode cX8_init 53 = .ok (.newarray .int, 2) := by decide +kernel
theorem dX8_init_55 : decode cX8_init 55 = .ok (.putfield 31, 3) := by decide +kernel
theorem dX8_init_58 : decode cX8_init 58 = .ok (.aload_n 0, 1) := by decide +kernel
theorem dX8_init_59 : decode cX8_init 59 = .ok (.bipush 24, 2) := by decide +kernel
theorem dX8_init_61 : decode cX8_init 61 = .ok (.newarray .int, 2) := by decide +kernel
theorem dX8_init_63 : decode cX8_init 63 = .ok (.putfield 34, 3) := by decide +kernel
theorem dX8_init_66 : decode cX8_init 66 = .ok (.aload_n 0, 1) := by decide +kernel
theorem dX8_init_67 : decode cX8_init 67 = .ok (.bipush 24, 2) := by decide +kernel
theorem dX8_init_69 : decode cX8_init 69 = .ok (.newarray .int, 2) := by decide +kernel
theorem dX8_init_71 : decode cX8_init 71 = .ok (.putfield 37, 3) := by decide +kernel
theorem dX8_init_74 : decode cX8_init 74 = .ok (.aload_n 0, 1) := by decide +kernel
theorem dX8_init_75 : decode cX8_init 75 = .ok (.bipush 24, 2) := by decide +kernel
theorem dX8_init_77 : decode cX8_init 77 = .ok (.newarray .int, 2) := by decide +kernel
theorem dX8_init_79 : decode cX8_init 79 = .ok (.putfield 40, 3) := by decide +kernel
theorem dX8_init_82 : decode cX8_init 82 = .ok (.aload_n 0, 1) := by decide +kernel
theorem dX8_init_83 : decode cX8_init 83 = .ok (.bipush 24, 2) := by decide +kernel
theorem dX8_init_85 : decode cX8_init 85 = .ok (.newarray .int, 2) := by decide +kernel
theorem dX8_init_87 : decode cX8_init 87 = .ok (.putfield 43, 3) := by decide +kernel
theorem dX8_init_90 : decode cX8_init 90 = .ok (.aload_n 0, 1) := by decide +kernel
theorem dX8_init_91 : decode cX8_init 91 = .ok (.bipush 24, 2) := by decide +kernel
theorem dX8_init_93 : decode cX8_init 93 = .ok (.newarray .int, 2) := by decide +kernel
theorem dX8_init_95 : decode cX8_init 95 = .ok (.putfield 46, 3) := by decide +kernel
theorem dX8_init_98 : decode cX8_init 98 = .ok (.aload_n 0, 1) := by decide +kernel
theorem dX8_init_99 : decode cX8_init 99 = .ok (.iconst 0, 1) := by decide +kernel
theorem dX8_init_100 : decode cX8_init 100 = .ok (.putfield 49, 3) := by decide +kernel
theorem dX8_init_103 : decode cX8_init 103 = .ok (.return_, 1) := by decide +kernel
theorem dX8_walk_0 : decode cX8_walk 0 = .ok (.aload_n 0, 1) := by decide +kernel
theorem dX8_walk_1 : decode cX8_walk 1 = .ok (.iload_n 2, 1) := by decide +kernel
theorem dX8_walk_2 : decode cX8_walk 2 = .ok (.putfield 9, 3) := by decide +kernel
theorem dX8_walk_5 : decode cX8_walk 5 = .ok (.aload_n 0, 1) := by decide +kernel
theorem dX8_walk_6 : decode cX8_walk 6 = .ok (.iconst 0, 1) := by decide +kernel
theorem dX8_walk_7 : decode cX8_walk 7 = .ok (.putfield 15, 3) := by decide +kernel
theorem dX8_walk_10 : decode cX8_walk 10 = .ok (.aload_n 0, 1) := by decide +kernel
theorem dX8_walk_11 : decode cX8_walk 11 = .ok (.iconst 0, 1) := by decide +kernel
theorem dX8_walk_12 : decode cX8_walk 12 = .ok (.putfield 49, 3) := by decide +kernel
theorem dX8_walk_15 : decode cX8_walk 15 = .ok (.aload_n 0, 1) := by decide +kernel
theorem dX8_walk_16 : decode cX8_walk 16 = .ok (.aload_n 1, 1) := by decide +kernel
theorem dX8_walk_17 : decode cX8_walk 17 = .ok (.getfield 52, 3) := by decide +kernel
theorem dX8_walk_20 : decode cX8_walk 20 = .ok (.getfield 58, 3) := by decide +kernel
theorem dX8_walk_23 : decode cX8_walk 23 = .ok (.iconst 0, 1) := by decide +kernel
theorem dX8_walk_24 : decode cX8_walk 24 = .ok (.iaload, 1) := by decide +kernel
theorem dX8_walk_25 : decode cX8_walk 25 = .ok (.iconst 0, 1) := by decide +kernel
theorem dX8_walk_26 : decode cX8_walk 26 = .ok (.aload_n 1, 1) := by decide +kernel
theorem dX8_walk_27 : decode cX8_walk 27 = .ok (.getfield 63, 3) := by decide +kernel
theorem dX8_walk_30 : decode cX8_walk 30 = .ok (.iconst 1, 1) := by decide +kernel
theorem dX8_walk_31 : decode cX8_walk 31 = .ok (.isub, 1) := by decide +kernel
theorem dX8_walk_32 : decode cX8_walk 32 = .ok (.iload_n 2, 1) := by decide +kernel
theorem dX8_walk_33 : decode cX8_walk 33 = .ok (.invokevirtual 66, 3) := by decide +kernel
theorem dX8_walk_36 : decode cX8_walk 36 = .ok (.iconst 0, 1) := by decide +kernel
theorem dX8_walk_37 : decode cX8_walk 37 = .ok (.istore_n 3, 1) := by decide +kernel
theorem dX8_walk_38 : decode cX8_walk 38 = .ok (.iload_n 3, 1) := by decide +kernel
theorem dX8_walk_39 : decode cX8_walk 39 = .ok (.sipush 1246, 3) := by decide +kernel
theorem dX8_walk_42 : decode cX8_walk 42 = .ok (.if_icmp .ge 43, 3) := by decide +kernel
theorem dX8_walk_45 : decode cX8_walk 45 = .ok (.aload_n 0, 1) := by decide +kernel
theorem dX8_walk_46 : decode cX8_walk 46 = .ok (.getfield 49, 3) := by decide +kernel
theorem dX8_walk_49 : decode cX8_walk 49 = .ok (.ifCond .le 36, 3) := by decide +kernel
theorem dX8_walk_52 : decode cX8_walk 52 = .ok (.aload_n 0, 1) := by decide +kernel
theorem dX8_walk_53 : decode cX8_walk 53 = .ok (.dup, 1) := by decide +kernel
theorem dX8_walk_54 : decode cX8_walk 54 = .ok (.getfield 49, 3) := by decide +kernel
theorem dX8_walk_57 : decode cX8_walk 57 = .ok (.iconst 1, 1) := by decide +kernel
theorem dX8_walk_58 : decode cX8_walk 58 = .ok (.isub, 1) := by decide +kernel
theorem dX8_walk_59 : decode cX8_walk 59 = .ok (.putfield 49, 3) := by decide +kernel
theorem dX8_walk_62 : decode cX8_walk 62 = .ok (.aload_n 0, 1) := by decide +kernel
theorem dX8_walk_63 : decode cX8_walk 63 = .ok (.iload_n 3, 1) := by decide +kernel
theorem dX8_walk_64 : decode cX8_walk 64 = .ok (.iconst 1, 1) := by decide +kernel
theorem dX8_walk_65 : decode cX8_walk 65 = .ok (.iadd, 1) := by decide +kernel
theorem dX8_walk_66 : decode cX8_walk 66 = .ok (.putfield 15, 3) := by decide +kernel
theorem dX8_walk_69 : decode cX8_walk 69 = .ok (.aload_n 0, 1) := by decide +kernel
theorem dX8_walk_70 : decode cX8_walk 70 = .ok (.aload_n 1, 1) := by decide +kernel
theorem dX8_walk_71 : decode cX8_walk 71 = .ok (.iload_n 3, 1) := by decide +kernel
theorem dX8_walk_72 : decode cX8_walk 72 = .ok (.aload_n 0, 1) := by decide +kernel
theorem dX8_walk_73 : decode cX8_walk 73 = .ok (.getfield 49, 3) := by decide +kernel
theorem dX8_walk_76 : decode cX8_walk 76 = .ok (.invokevirtual 70, 3) := by decide +kernel
theorem dX8_walk_79 : decode cX8_walk 79 = .ok (.iinc 3 1, 3) := by decide +kernel
theorem dX8_walk_82 : decode cX8_walk 82 = .ok (.goto (-44), 3) := by decide +kernel
theorem dX8_walk_85 : decode cX8_walk 85 = .ok (.return_, 1) := by decide +kernel
theorem dX8_visit_0 : decode cX8_visit 0 = .ok (.aload_n 0, 1) := by decide +kernel
theorem dX8_visit_1 : decode cX8_visit 1 = .ok (.getfield 37, 3) := by decide +kernel
theorem dX8_visit_4 : decode cX8_visit 4 = .ok (.iload_n 3, 1) := by decide +kernel
theorem dX8_visit_5 : decode cX8_visit 5 = .ok (.iaload, 1) := by decide +kernel
theorem dX8_visit_6 : decode cX8_visit 6 = .ok (.istore 4, 2) := by decide +kernel
theorem dX8_visit_8 : decode cX8_visit 8 = .ok (.aload_n 0, 1) := by decide +kernel
theorem dX8_visit_9 : decode cX8_visit 9 = .ok (.getfield 40, 3) := by decide +kernel
theorem dX8_visit_12 : decode cX8_visit 12 = .ok (.iload_n 3, 1) := by decide +kernel
theorem dX8_visit_13 : decode cX8_visit 13 = .ok (.iaload, 1) := by decide +kernel
theorem dX8_visit_14 : decode cX8_visit 14 = .ok (.istore 5, 2) := by decide +kernel
theorem dX8_visit_16 : decode cX8_visit 16 = .ok (.aload_n 0, 1) := by decide +kernel
theorem dX8_visit_17 : decode cX8_visit 17 = .ok (.getfield 43, 3) := by decide +kernel
theorem dX8_visit_20 : decode cX8_visit 20 = .ok (.iload_n 3, 1) := by decide +kernel
theorem dX8_visit_21 : decode cX8_visit 21 = .ok (.iaload, 1) := by decide +kernel
theorem dX8_visit_22 : decode cX8_visit 22 = .ok (.istore 6, 2) := by decide +kernel
theorem dX8_visit_24 : decode cX8_visit 24 = .ok (.aload_n 0, 1) := by decide +kernel
theorem dX8_visit_25 : decode cX8_visit 25 = .ok (.getfield 22, 3) := by decide +kernel
theorem dX8_visit_28 : decode cX8_visit 28 = .ok (.iload_n 2, 1) := by decide +kernel
theorem dX8_visit_29 : decode cX8_visit 29 = .ok (.iload 5, 2) := by decide +kernel
theorem dX8_visit_31 : decode cX8_visit 31 = .ok (.iastore, 1) := by decide +kernel
theorem dX8_visit_32 : decode cX8_visit 32 = .ok (.aload_n 0, 1) := by decide +kernel
theorem dX8_visit_33 : decode cX8_visit 33 = .ok (.getfield 25, 3) := by decide +kernel
theorem dX8_visit_36 : decode cX8_visit 36 = .ok (.iload_n 2, 1) := by decide +kernel
theorem dX8_visit_37 : decode cX8_visit 37 = .ok (.iload 6, 2) := by decide +kernel
theorem dX8_visit_39 : decode cX8_visit 39 = .ok (.iastore, 1) := by decide +kernel
theorem dX8_visit_40 : decode cX8_visit 40 = .ok (.aload_n 0, 1) := by decide +kernel
theorem dX8_visit_41 : decode cX8_visit 41 = .ok (.getfield 18, 3) := by decide +kernel
theorem dX8_visit_44 : decode cX8_visit 44 = .ok (.iload_n 2, 1) := by decide +kernel
theorem dX8_visit_45 : decode cX8_visit 45 = .ok (.iconst (-1), 1) := by decide +kernel
theorem dX8_visit_46 : decode cX8_visit 46 = .ok (.iastore, 1) := by decide +kernel
theorem dX8_visit_47 : decode cX8_visit 47 = .ok (.aload_n 0, 1) := by decide +kernel
theorem dX8_visit_48 : decode cX8_visit 48 = .ok (.getfield 28, 3) := by decide +kernel
theorem dX8_visit_51 : decode cX8_visit 51 = .ok (.iload_n 2, 1) := by decide +kernel
theorem dX8_visit_52 : decode cX8_visit 52 = .ok (.iconst (-1), 1) := by decide +kernel
theorem dX8_visit_53 : decode cX8_visit 53 = .ok (.iastore, 1) := by decide +kernel
theorem dX8_visit_54 : decode cX8_visit 54 = .ok (.iload 4, 2) := by decide +kernel
theorem dX8_visit_56 : decode cX8_visit 56 = .ok (.bipush 26, 2) := by decide +kernel
theorem dX8_visit_58 : decode cX8_visit 58 = .ok (.if_icmp .lt 50, 3) := by decide +kernel
theorem dX8_visit_61 : decode cX8_visit 61 = .ok (.aload_n 0, 1) := by decide +kernel
theorem dX8_visit_62 : decode cX8_visit 62 = .ok (.getfield 28, 3) := by decide +kernel
theorem dX8_visit_65 : decode cX8_visit 65 = .ok (.iload_n 2, 1) := by decide +kernel
theorem dX8_visit_66 : decode cX8_visit 66 = .ok (.aload_n 1, 1) := by decide +kernel
theorem dX8_visit_67 : decode cX8_visit 67 = .ok (.iload 4, 2) := by decide +kernel
theorem dX8_visit_69 : decode cX8_visit 69 = .ok (.iload 5, 2) := by decide +kernel
theorem dX8_visit_71 : decode cX8_visit 71 = .ok (.invokevirtual 74, 3) := by decide +kernel
theorem dX8_visit_74 : decode cX8_visit 74 = .ok (.iastore, 1) := by decide +kernel
theorem dX8_visit_75 : decode cX8_visit 75 = .ok (.aload_n 0, 1) := by decide +kernel
theorem dX8_visit_76 : decode cX8_visit 76 = .ok (.getfield 31, 3) := by decide +kernel
theorem dX8_visit_79 : decode cX8_visit 79 = .ok (.iload 5, 2) := by decide +kernel
theorem dX8_visit_81 : decode cX8_visit 81 = .ok (.aload_n 0, 1) := by decide +kernel
theorem dX8_visit_82 : decode cX8_visit 82 = .ok (.getfield 28, 3) := by decide +kernel
theorem dX8_visit_85 : decode cX8_visit 85 = .ok (.iload_n 2, 1) := by decide +kernel
theorem dX8_visit_86 : decode cX8_visit 86 = .ok (.iaload, 1) := by decide +kernel
theorem dX8_visit_87 : decode cX8_visit 87 = .ok (.iastore, 1) := by decide +kernel
theorem dX8_visit_88 : decode cX8_visit 88 = .ok (.aload_n 0, 1) := by decide +kernel
theorem dX8_visit_89 : decode cX8_visit 89 = .ok (.getfield 34, 3) := by decide +kernel
theorem dX8_visit_92 : decode cX8_visit 92 = .ok (.iload 5, 2) := by decide +kernel
theorem dX8_visit_94 : decode cX8_visit 94 = .ok (.iload 4, 2) := by decide +kernel
theorem dX8_visit_96 : decode cX8_visit 96 = .ok (.bipush 26, 2) := by decide +kernel
theorem dX8_visit_98 : decode cX8_visit 98 = .ok (.isub, 1) := by decide +kernel
theorem dX8_visit_99 : decode cX8_visit 99 = .ok (.bipush 10, 2) := by decide +kernel
theorem dX8_visit_101 : decode cX8_visit 101 = .ok (.idiv, 1) := by decide +kernel
theorem dX8_visit_102 : decode cX8_visit 102 = .ok (.iconst 1, 1) := by decide +kernel
theorem dX8_visit_103 : decode cX8_visit 103 = .ok (.iadd, 1) := by decide +kernel
theorem dX8_visit_104 : decode cX8_visit 104 = .ok (.iastore, 1) := by decide +kernel
theorem dX8_visit_105 : decode cX8_visit 105 = .ok (.goto 65, 3) := by decide +kernel
theorem dX8_visit_108 : decode cX8_visit 108 = .ok (.aload_n 0, 1) := by decide +kernel
theorem dX8_visit_109 : decode cX8_visit 109 = .ok (.getfield 46, 3) := by decide +kernel
theorem dX8_visit_112 : decode cX8_visit 112 = .ok (.iload_n 3, 1) := by decide +kernel
theorem dX8_visit_113 : decode cX8_visit 113 = .ok (.iaload, 1) := by decide +kernel
theorem dX8_visit_114 : decode cX8_visit 114 = .ok (.aload_n 1, 1) := by decide +kernel
theorem dX8_visit_115 : decode cX8_visit 115 = .ok (.iload 4, 2) := by decide +kernel
theorem dX8_visit_117 : decode cX8_visit 117 = .ok (.iload 5, 2) := by decide +kernel
theorem dX8_visit_119 : decode cX8_visit 119 = .ok (.iload 6, 2) := by decide +kernel
theorem dX8_visit_121 : decode cX8_visit 121 = .ok (.invokevirtual 78, 3) := by decide +kernel
theorem dX8_visit_124 : decode cX8_visit 124 = .ok (.if_icmp .ge 46, 3) := by decide +kernel
theorem dX8_visit_127 : decode cX8_visit 127 = .ok (.aload_n 1, 1) := by decide +kernel
theorem dX8_visit_128 : decode cX8_visit 128 = .ok (.iload 4, 2) := by decide +kernel
theorem dX8_visit_130 : decode cX8_visit 130 = .ok (.iload 5, 2) := by decide +kernel
theorem dX8_visit_132 : decode cX8_visit 132 = .ok (.iload 6, 2) := by decide +kernel
theorem dX8_visit_134 : decode cX8_visit 134 = .ok (.aload_n 0, 1) := by decide +kernel
theorem dX8_visit_135 : decode cX8_visit 135 = .ok (.getfield 46, 3) := by decide +kernel
theorem dX8_visit_138 : decode cX8_visit 138 = .ok (.iload_n 3, 1) := by decide +kernel
theorem dX8_visit_139 : decode cX8_visit 139 = .ok (.iaload, 1) := by decide +kernel
theorem dX8_visit_140 : decode cX8_visit 140 = .ok (.invokevirtual 82, 3) := by decide +kernel
theorem dX8_visit_143 : decode cX8_visit 143 = .ok (.lstore 7, 2) := by decide +kernel
theorem dX8_visit_145 : decode cX8_visit 145 = .ok (.aload_n 0, 1) := by decide +kernel
theorem dX8_visit_146 : decode cX8_visit 146 = .ok (.getfield 18, 3) := by decide +kernel
theorem dX8_visit_149 : decode cX8_visit 149 = .ok (.iload_n 2, 1) := by decide +kernel
theorem dX8_visit_150 : decode cX8_visit 150 = .ok (.lload 7, 2) := by decide +kernel
theorem dX8_visit_152 : decode cX8_visit 152 = .ok (.invokestatic 86, 3) := by decide +kernel
theorem dX8_visit_155 : decode cX8_visit 155 = .ok (.iastore, 1) := by decide +kernel
theorem dX8_visit_156 : decode cX8_visit 156 = .ok (.aload_n 0, 1) := by decide +kernel
theorem dX8_visit_157 : decode cX8_visit 157 = .ok (.aload_n 1, 1) := by decide +kernel
theorem dX8_visit_158 : decode cX8_visit 158 = .ok (.getfield 52, 3) := by decide +kernel
theorem dX8_visit_161 : decode cX8_visit 161 = .ok (.lload 7, 2) := by decide +kernel
theorem dX8_visit_163 : decode cX8_visit 163 = .ok (.iload 5, 2) := by decide +kernel
theorem dX8_visit_165 : decode cX8_visit 165 = .ok (.iload 6, 2) := by decide +kernel
theorem dX8_visit_167 : decode cX8_visit 167 = .ok (.invokevirtual 90, 3) := by decide +kernel
theorem dX8_visit_170 : decode cX8_visit 170 = .ok (.return_, 1) := by decide +kernel
theorem dX8_pushParts_0 : decode cX8_pushParts 0 = .ok (.lload_n 2, 1) := by decide +kernel
theorem dX8_pushParts_1 : decode cX8_pushParts 1 = .ok (.invokestatic 86, 3) := by decide +kernel
theorem dX8_pushParts_4 : decode cX8_pushParts 4 = .ok (.istore 6, 2) := by decide +kernel
theorem dX8_pushParts_6 : decode cX8_pushParts 6 = .ok (.iload 6, 2) := by decide +kernel
theorem dX8_pushParts_8 : decode cX8_pushParts 8 = .ok (.aload_n 1, 1) := by decide +kernel
theorem dX8_pushParts_9 : decode cX8_pushParts 9 = .ok (.getfield 94, 3) := by decide +kernel
theorem dX8_pushParts_12 : decode cX8_pushParts 12 = .ok (.if_icmp .lt 4, 3) := by decide +kernel
theorem dX8_pushParts_15 : decode cX8_pushParts 15 = .ok (.return_, 1) := by decide +kernel
theorem dX8_pushParts_16 : decode cX8_pushParts 16 = .ok (.iload 4, 2) := by decide +kernel
theorem dX8_pushParts_18 : decode cX8_pushParts 18 = .ok (.lload_n 2, 1) := by decide +kernel
theorem dX8_pushParts_19 : decode cX8_pushParts 19 = .ok (.invokestatic 96, 3) := by decide +kernel
theorem dX8_pushParts_22 : decode cX8_pushParts 22 = .ok (.iadd, 1) := by decide +kernel
theorem dX8_pushParts_23 : decode cX8_pushParts 23 = .ok (.istore 7, 2) := by decide +kernel
theorem dX8_pushParts_25 : decode cX8_pushParts 25 = .ok (.aload_n 1, 1) := by decide +kernel
theorem dX8_pushParts_26 : decode cX8_pushParts 26 = .ok (.getfield 99, 3) := by decide +kernel
theorem dX8_pushParts_29 : decode cX8_pushParts 29 = .ok (.iload 6, 2) := by decide +kernel
theorem dX8_pushParts_31 : decode cX8_pushParts 31 = .ok (.iaload, 1) := by decide +kernel
theorem dX8_pushParts_32 : decode cX8_pushParts 32 = .ok (.iconst (-1), 1) := by decide +kernel
theorem dX8_pushParts_33 : decode cX8_pushParts 33 = .ok (.if_icmp .ne 25, 3) := by decide +kernel
theorem dX8_pushParts_36 : decode cX8_pushParts 36 = .ok (.aload_n 0, 1) := by decide +kernel
theorem dX8_pushParts_37 : decode cX8_pushParts 37 = .ok (.aload_n 1, 1) := by decide +kernel
theorem dX8_pushParts_38 : decode cX8_pushParts 38 = .ok (.getfield 102, 3) := by decide +kernel
theorem dX8_pushParts_41 : decode cX8_pushParts 41 = .ok (.iload 6, 2) := by decide +kernel
theorem dX8_pushParts_43 : decode cX8_pushParts 43 = .ok (.iaload, 1) := by decide +kernel
theorem dX8_pushParts_44 : decode cX8_pushParts 44 = .ok (.iload 4, 2) := by decide +kernel
theorem dX8_pushParts_46 : decode cX8_pushParts 46 = .ok (.iload 5, 2) := by decide +kernel
theorem dX8_pushParts_48 : decode cX8_pushParts 48 = .ok (.lload_n 2, 1) := by decide +kernel
theorem dX8_pushParts_49 : decode cX8_pushParts 49 = .ok (.invokestatic 105, 3) := by decide +kernel
theorem dX8_pushParts_52 : decode cX8_pushParts 52 = .ok (.invokevirtual 66, 3) := by decide +kernel
theorem dX8_pushParts_55 : decode cX8_pushParts 55 = .ok (.goto 57, 3) := by decide +kernel
theorem dX8_pushParts_58 : decode cX8_pushParts 58 = .ok (.iload 7, 2) := by decide +kernel
theorem dX8_pushParts_60 : decode cX8_pushParts 60 = .ok (.iload 4, 2) := by decide +kernel
theorem dX8_pushParts_62 : decode cX8_pushParts 62 = .ok (.if_icmp .le 50, 3) := by decide +kernel
theorem dX8_pushParts_65 : decode cX8_pushParts 65 = .ok (.iload 7, 2) := by decide +kernel
theorem dX8_pushParts_67 : decode cX8_pushParts 67 = .ok (.iload 5, 2) := by decide +kernel
theorem dX8_pushParts_69 : decode cX8_pushParts 69 = .ok (.if_icmp .gt 43, 3) := by decide +kernel
theorem dX8_pushParts_72 : decode cX8_pushParts 72 = .ok (.aload_n 0, 1) := by decide +kernel
theorem dX8_pushParts_73 : decode cX8_pushParts 73 = .ok (.aload_n 1, 1) := by decide +kernel
theorem dX8_pushParts_74 : decode cX8_pushParts 74 = .ok (.getfield 99, 3) := by decide +kernel
theorem dX8_pushParts_77 : decode cX8_pushParts 77 = .ok (.iload 6, 2) := by decide +kernel
theorem dX8_pushParts_79 : decode cX8_pushParts 79 = .ok (.iaload, 1) := by decide +kernel
theorem dX8_pushParts_80 : decode cX8_pushParts 80 = .ok (.iload 7, 2) := by decide +kernel
theorem dX8_pushParts_82 : decode cX8_pushParts 82 = .ok (.iload 5, 2) := by decide +kernel
theorem dX8_pushParts_84 : decode cX8_pushParts 84 = .ok (.lload_n 2, 1) := by decide +kernel
theorem dX8_pushParts_85 : decode cX8_pushParts 85 = .ok (.invokestatic 108, 3) := by decide +kernel
theorem dX8_pushParts_88 : decode cX8_pushParts 88 = .ok (.invokevirtual 66, 3) := by decide +kernel
theorem dX8_pushParts_91 : decode cX8_pushParts 91 = .ok (.aload_n 0, 1) := by decide +kernel
theorem dX8_pushParts_92 : decode cX8_pushParts 92 = .ok (.aload_n 1, 1) := by decide +kernel
theorem dX8_pushParts_93 : decode cX8_pushParts 93 = .ok (.getfield 102, 3) := by decide +kernel
theorem dX8_pushParts_96 : decode cX8_pushParts 96 = .ok (.iload 6, 2) := by decide +kernel
theorem dX8_pushParts_98 : decode cX8_pushParts 98 = .ok (.iaload, 1) := by decide +kernel
theorem dX8_pushParts_99 : decode cX8_pushParts 99 = .ok (.iload 4, 2) := by decide +kernel
theorem dX8_pushParts_101 : decode cX8_pushParts 101 = .ok (.iload 7, 2) := by decide +kernel
theorem dX8_pushParts_103 : decode cX8_pushParts 103 = .ok (.iconst 1, 1) := by decide +kernel
theorem dX8_pushParts_104 : decode cX8_pushParts 104 = .ok (.isub, 1) := by decide +kernel
theorem dX8_pushParts_105 : decode cX8_pushParts 105 = .ok (.lload_n 2, 1) := by decide +kernel
theorem dX8_pushParts_106 : decode cX8_pushParts 106 = .ok (.invokestatic 105, 3) := by decide +kernel
theorem dX8_pushParts_109 : decode cX8_pushParts 109 = .ok (.invokevirtual 66, 3) := by decide +kernel
theorem dX8_pushParts_112 : decode cX8_pushParts 112 = .ok (.return_, 1) := by decide +kernel
theorem dX8_push_0 : decode cX8_push 0 = .ok (.aload_n 0, 1) := by decide +kernel
theorem dX8_push_1 : decode cX8_push 1 = .ok (.getfield 49, 3) := by decide +kernel
theorem dX8_push_4 : decode cX8_push 4 = .ok (.bipush 24, 2) := by decide +kernel
theorem dX8_push_6 : decode cX8_push 6 = .ok (.if_icmp .ge 54, 3) := by decide +kernel
theorem dX8_push_9 : decode cX8_push 9 = .ok (.aload_n 0, 1) := by decide +kernel
theorem dX8_push_10 : decode cX8_push 10 = .ok (.getfield 37, 3) := by decide +kernel
theorem dX8_push_13 : decode cX8_push 13 = .ok (.aload_n 0, 1) := by decide +kernel
theorem dX8_push_14 : decode cX8_push 14 = .ok (.getfield 49, 3) := by decide +kernel
theorem dX8_push_17 : decode cX8_push 17 = .ok (.iload_n 1, 1) := by decide +kernel
theorem dX8_push_18 : decode cX8_push 18 = .ok (.iastore, 1) := by decide +kernel
theorem dX8_push_19 : decode cX8_push 19 = .ok (.aload_n 0, 1) := by decide +kernel
theorem dX8_push_20 : decode cX8_push 20 = .ok (.getfield 40, 3) := by decide +kernel
theorem dX8_push_23 : decode cX8_push 23 = .ok (.aload_n 0, 1) := by decide +kernel
theorem dX8_push_24 : decode cX8_push 24 = .ok (.getfield 49, 3) := by decide +kernel
theorem dX8_push_27 : decode cX8_push 27 = .ok (.iload_n 2, 1) := by decide +kernel
theorem dX8_push_28 : decode cX8_push 28 = .ok (.iastore, 1) := by decide +kernel
theorem dX8_push_29 : decode cX8_push 29 = .ok (.aload_n 0, 1) := by decide +kernel
theorem dX8_push_30 : decode cX8_push 30 = .ok (.getfield 43, 3) := by decide +kernel
theorem dX8_push_33 : decode cX8_push 33 = .ok (.aload_n 0, 1) := by decide +kernel
theorem dX8_push_34 : decode cX8_push 34 = .ok (.getfield 49, 3) := by decide +kernel
theorem dX8_push_37 : decode cX8_push 37 = .ok (.iload_n 3, 1) := by decide +kernel
theorem dX8_push_38 : decode cX8_push 38 = .ok (.iastore, 1) := by decide +kernel
theorem dX8_push_39 : decode cX8_push 39 = .ok (.aload_n 0, 1) := by decide +kernel
theorem dX8_push_40 : decode cX8_push 40 = .ok (.getfield 46, 3) := by decide +kernel
theorem dX8_push_43 : decode cX8_push 43 = .ok (.aload_n 0, 1) := by decide +kernel
theorem dX8_push_44 : decode cX8_push 44 = .ok (.getfield 49, 3) := by decide +kernel
theorem dX8_push_47 : decode cX8_push 47 = .ok (.iload 4, 2) := by decide +kernel
theorem dX8_push_49 : decode cX8_push 49 = .ok (.iastore, 1) := by decide +kernel
theorem dX8_push_50 : decode cX8_push 50 = .ok (.aload_n 0, 1) := by decide +kernel
theorem dX8_push_51 : decode cX8_push 51 = .ok (.dup, 1) := by decide +kernel
theorem dX8_push_52 : decode cX8_push 52 = .ok (.getfield 49, 3) := by decide +kernel
theorem dX8_push_55 : decode cX8_push 55 = .ok (.iconst 1, 1) := by decide +kernel
theorem dX8_push_56 : decode cX8_push 56 = .ok (.iadd, 1) := by decide +kernel
theorem dX8_push_57 : decode cX8_push 57 = .ok (.putfield 49, 3) := by decide +kernel
theorem dX8_push_60 : decode cX8_push 60 = .ok (.return_, 1) := by decide +kernel
theorem dX8_degreeAt_0 : decode cX8_degreeAt 0 = .ok (.iload_n 1, 1) := by decide +kernel
theorem dX8_degreeAt_1 : decode cX8_degreeAt 1 = .ok (.ifCond .lt 18, 3) := by decide +kernel
theorem dX8_degreeAt_4 : decode cX8_degreeAt 4 = .ok (.iload_n 1, 1) := by decide +kernel
theorem dX8_degreeAt_5 : decode cX8_degreeAt 5 = .ok (.bipush 24, 2) := by decide +kernel
theorem dX8_degreeAt_7 : decode cX8_degreeAt 7 = .ok (.if_icmp .ge 12, 3) := by decide +kernel
theorem dX8_degreeAt_10 : decode cX8_degreeAt 10 = .ok (.aload_n 0, 1) := by decide +kernel
theorem dX8_degreeAt_11 : decode cX8_degreeAt 11 = .ok (.getfield 34, 3) := by decide +kernel
theorem dX8_degreeAt_14 : decode cX8_degreeAt 14 = .ok (.iload_n 1, 1) := by decide +kernel
theorem dX8_degreeAt_15 : decode cX8_degreeAt 15 = .ok (.iaload, 1) := by decide +kernel
theorem dX8_degreeAt_16 : decode cX8_degreeAt 16 = .ok (.goto 4, 3) := by decide +kernel
theorem dX8_degreeAt_19 : decode cX8_degreeAt 19 = .ok (.iconst (-1), 1) := by decide +kernel
theorem dX8_degreeAt_20 : decode cX8_degreeAt 20 = .ok (.ireturn, 1) := by decide +kernel
theorem dX9_init_0 : decode cX9_init 0 = .ok (.aload_n 0, 1) := by decide +kernel
theorem dX9_init_1 : decode cX9_init 1 = .ok (.invokespecial 3, 3) := by decide +kernel
theorem dX9_init_4 : decode cX9_init 4 = .ok (.aload_n 0, 1) := by decide +kernel
theorem dX9_init_5 : decode cX9_init 5 = .ok (.new 9, 3) := by decide +kernel
theorem dX9_init_8 : decode cX9_init 8 = .ok (.dup, 1) := by decide +kernel
theorem dX9_init_9 : decode cX9_init 9 = .ok (.invokespecial 11, 3) := by decide +kernel
theorem dX9_init_12 : decode cX9_init 12 = .ok (.putfield 12, 3) := by decide +kernel
theorem dX9_init_15 : decode cX9_init 15 = .ok (.aload_n 0, 1) := by decide +kernel
theorem dX9_init_16 : decode cX9_init 16 = .ok (.new 16, 3) := by decide +kernel
theorem dX9_init_19 : decode cX9_init 19 = .ok (.dup, 1) := by decide +kernel
theorem dX9_init_20 : decode cX9_init 20 = .ok (.invokespecial 18, 3) := by decide +kernel
theorem dX9_init_23 : decode cX9_init 23 = .ok (.putfield 19, 3) := by decide +kernel
theorem dX9_init_26 : decode cX9_init 26 = .ok (.aload_n 0, 1) := by decide +kernel
theorem dX9_init_27 : decode cX9_init 27 = .ok (.new 23, 3) := by decide +kernel
theorem dX9_init_30 : decode cX9_init 30 = .ok (.dup, 1) := by decide +kernel
theorem dX9_init_31 : decode cX9_init 31 = .ok (.invokespecial 25, 3) := by decide +kernel
theorem dX9_init_34 : decode cX9_init 34 = .ok (.putfield 26, 3) := by decide +kernel
theorem dX9_init_37 : decode cX9_init 37 = .ok (.aload_n 0, 1) := by decide +kernel
theorem dX9_init_38 : decode cX9_init 38 = .ok (.new 30, 3) := by decide +kernel
theorem dX9_init_41 : decode cX9_init 41 = .ok (.dup, 1) := by decide +kernel
theorem dX9_init_42 : decode cX9_init 42 = .ok (.invokespecial 32, 3) := by decide +kernel
theorem dX9_init_45 : decode cX9_init 45 = .ok (.putfield 33, 3) := by decide +kernel
theorem dX9_init_48 : decode cX9_init 48 = .ok (.aload_n 0, 1) := by decide +kernel
theorem dX9_init_49 : decode cX9_init 49 = .ok (.new 37, 3) := by decide +kernel
theorem dX9_init_52 : decode cX9_init 52 = .ok (.dup, 1) := by decide +kernel
theorem dX9_init_53 : decode cX9_init 53 = .ok (.invokespecial 39, 3) := by decide +kernel
theorem dX9_init_56 : decode cX9_init 56 = .ok (.putfield 40, 3) := by decide +kernel
theorem dX9_init_59 : decode cX9_init 59 = .ok (.aload_n 0, 1) := by decide +kernel
theorem dX9_init_60 : decode cX9_init 60 = .ok (.new 44, 3) := by decide +kernel
theorem dX9_init_63 : decode cX9_init 63 = .ok (.dup, 1) := by decide +kernel
theorem dX9_init_64 : decode cX9_init 64 = .ok (.invokespecial 46, 3) := by decide +kernel
theorem dX9_init_67 : decode cX9_init 67 = .ok (.putfield 47, 3) := by decide +kernel
theorem dX9_init_70 : decode cX9_init 70 = .ok (.aload_n 0, 1) := by decide +kernel
theorem dX9_init_71 : decode cX9_init 71 = .ok (.new 51, 3) := by decide +kernel
theorem dX9_init_74 : decode cX9_init 74 = .ok (.dup, 1) := by decide +kernel
theorem dX9_init_75 : decode cX9_init 75 = .ok (.invokespecial 53, 3) := by decide +kernel
theorem dX9_init_78 : decode cX9_init 78 = .ok (.putfield 54, 3) := by decide +kernel
theorem dX9_init_81 : decode cX9_init 81 = .ok (.aload_n 0, 1) := by decide +kernel
theorem dX9_init_82 : decode cX9_init 82 = .ok (.new 58, 3) := by decide +kernel
theorem dX9_init_85 : decode cX9_init 85 = .ok (.dup, 1) := by decide +kernel
theorem dX9_init_86 : decode cX9_init 86 = .ok (.invokespecial 60, 3) := by decide +kernel
theorem dX9_init_89 : decode cX9_init 89 = .ok (.putfield 61, 3) := by decide +kernel
theorem dX9_init_92 : decode cX9_init 92 = .ok (.return_, 1) := by decide +kernel
theorem dX9_key_0 : decode cX9_key 0 = .ok (.aload_n 0, 1) := by decide +kernel
theorem dX9_key_1 : decode cX9_key 1 = .ok (.getfield 12, 3) := by decide +kernel
theorem dX9_key_4 : decode cX9_key 4 = .ok (.iload_n 1, 1) := by decide +kernel
theorem dX9_key_5 : decode cX9_key 5 = .ok (.iload_n 2, 1) := by decide +kernel
theorem dX9_key_6 : decode cX9_key 6 = .ok (.invokevirtual 65, 3) := by decide +kernel
theorem dX9_key_9 : decode cX9_key 9 = .ok (.ireturn, 1) := by decide +kernel
theorem dX9_cost_0 : decode cX9_cost 0 = .ok (.aload_n 0, 1) := by decide +kernel
theorem dX9_cost_1 : decode cX9_cost 1 = .ok (.getfield 19, 3) := by decide +kernel
theorem dX9_cost_4 : decode cX9_cost 4 = .ok (.iload_n 1, 1) := by decide +kernel
theorem dX9_cost_5 : decode cX9_cost 5 = .ok (.iload_n 2, 1) := by decide +kernel
theorem dX9_cost_6 : decode cX9_cost 6 = .ok (.invokevirtual 69, 3) := by decide +kernel
theorem dX9_cost_9 : decode cX9_cost 9 = .ok (.ireturn, 1) := by decide +kernel
theorem dX9_draft_0 : decode cX9_draft 0 = .ok (.aload_n 0, 1) := by decide +kernel
theorem dX9_draft_1 : decode cX9_draft 1 = .ok (.getfield 33, 3) := by decide +kernel
theorem dX9_draft_4 : decode cX9_draft 4 = .ok (.iload_n 1, 1) := by decide +kernel
theorem dX9_draft_5 : decode cX9_draft 5 = .ok (.lload_n 2, 1) := by decide +kernel
theorem dX9_draft_6 : decode cX9_draft 6 = .ok (.invokevirtual 72, 3) := by decide +kernel
theorem dX9_draft_9 : decode cX9_draft 9 = .ok (.ireturn, 1) := by decide +kernel
theorem dX9_grammar_0 : decode cX9_grammar 0 = .ok (.aload_n 0, 1) := by decide +kernel
theorem dX9_grammar_1 : decode cX9_grammar 1 = .ok (.getfield 47, 3) := by decide +kernel
theorem dX9_grammar_4 : decode cX9_grammar 4 = .ok (.aload_n 0, 1) := by decide +kernel
theorem dX9_grammar_5 : decode cX9_grammar 5 = .ok (.getfield 33, 3) := by decide +kernel
theorem dX9_grammar_8 : decode cX9_grammar 8 = .ok (.invokevirtual 76, 3) := by decide +kernel
theorem dX9_grammar_11 : decode cX9_grammar 11 = .ok (.istore_n 1, 1) := by decide +kernel
theorem dX9_grammar_12 : decode cX9_grammar 12 = .ok (.aload_n 0, 1) := by decide +kernel
theorem dX9_grammar_13 : decode cX9_grammar 13 = .ok (.getfield 33, 3) := by decide +kernel
theorem dX9_grammar_16 : decode cX9_grammar 16 = .ok (.iconst 0, 1) := by decide +kernel
theorem dX9_grammar_17 : decode cX9_grammar 17 = .ok (.putfield 80, 3) := by decide +kernel
theorem dX9_grammar_20 : decode cX9_grammar 20 = .ok (.iload_n 1, 1) := by decide +kernel
theorem dX9_grammar_21 : decode cX9_grammar 21 = .ok (.iconst (-1), 1) := by decide +kernel
theorem dX9_grammar_22 : decode cX9_grammar 22 = .ok (.if_icmp .eq 8, 3) := by decide +kernel
theorem dX9_grammar_25 : decode cX9_grammar 25 = .ok (.bipush (-2), 2) := by decide +kernel
theorem dX9_grammar_27 : decode cX9_grammar 27 = .ok (.iload_n 1, 1) := by decide +kernel
theorem dX9_grammar_28 : decode cX9_grammar 28 = .ok (.isub, 1) := by decide +kernel
theorem dX9_grammar_29 : decode cX9_grammar 29 = .ok (.ireturn, 1) := by decide +kernel
theorem dX9_grammar_30 : decode cX9_grammar 30 = .ok (.aload_n 0, 1) := by decide +kernel
theorem dX9_grammar_31 : decode cX9_grammar 31 = .ok (.getfield 40, 3) := by decide +kernel
theorem dX9_grammar_34 : decode cX9_grammar 34 = .ok (.aload_n 0, 1) := by decide +kernel
theorem dX9_grammar_35 : decode cX9_grammar 35 = .ok (.getfield 47, 3) := by decide +kernel
theorem dX9_grammar_38 : decode cX9_grammar 38 = .ok (.getfield 84, 3) := by decide +kernel
theorem dX9_grammar_41 : decode cX9_grammar 41 = .ok (.invokevirtual 87, 3) := by decide +kernel
theorem dX9_grammar_44 : decode cX9_grammar 44 = .ok (.aload_n 0, 1) := by decide +kernel
theorem dX9_grammar_45 : decode cX9_grammar 45 = .ok (.getfield 40, 3) := by decide +kernel
theorem dX9_grammar_48 : decode cX9_grammar 48 = .ok (.getfield 91, 3) := by decide +kernel
theorem dX9_grammar_51 : decode cX9_grammar 51 = .ok (.ireturn, 1) := by decide +kernel
theorem dX9_slot_0 : decode cX9_slot 0 = .ok (.aload_n 0, 1) := by decide +kernel
theorem dX9_slot_1 : decode cX9_slot 1 = .ok (.getfield 26, 3) := by decide +kernel
theorem dX9_slot_4 : decode cX9_slot 4 = .ok (.iload_n 1, 1) := by decide +kernel
theorem dX9_slot_5 : decode cX9_slot 5 = .ok (.iload_n 2, 1) := by decide +kernel
theorem dX9_slot_6 : decode cX9_slot 6 = .ok (.iload_n 3, 1) := by decide +kernel
theorem dX9_slot_7 : decode cX9_slot 7 = .ok (.invokevirtual 94, 3) := by decide +kernel
theorem dX9_slot_10 : decode cX9_slot 10 = .ok (.ireturn, 1) := by decide +kernel
theorem dX9_clear_0 : decode cX9_clear 0 = .ok (.aload_n 0, 1) := by decide +kernel
theorem dX9_clear_1 : decode cX9_clear 1 = .ok (.getfield 26, 3) := by decide +kernel
theorem dX9_clear_4 : decode cX9_clear 4 = .ok (.getfield 98, 3) := by decide +kernel
theorem dX9_clear_7 : decode cX9_clear 7 = .ok (.istore_n 1, 1) := by decide +kernel
theorem dX9_clear_8 : decode cX9_clear 8 = .ok (.aload_n 0, 1) := by decide +kernel
theorem dX9_clear_9 : decode cX9_clear 9 = .ok (.getfield 26, 3) := by decide +kernel
theorem dX9_clear_12 : decode cX9_clear 12 = .ok (.iconst 0, 1) := by decide +kernel
theorem dX9_clear_13 : decode cX9_clear 13 = .ok (.putfield 98, 3) := by decide +kernel
theorem dX9_clear_16 : decode cX9_clear 16 = .ok (.iload_n 1, 1) := by decide +kernel
theorem dX9_clear_17 : decode cX9_clear 17 = .ok (.ireturn, 1) := by decide +kernel
theorem dX9_fit_0 : decode cX9_fit 0 = .ok (.aload_n 0, 1) := by decide +kernel
theorem dX9_fit_1 : decode cX9_fit 1 = .ok (.getfield 26, 3) := by decide +kernel
theorem dX9_fit_4 : decode cX9_fit 4 = .ok (.iload_n 1, 1) := by decide +kernel
theorem dX9_fit_5 : decode cX9_fit 5 = .ok (.invokevirtual 101, 3) := by decide +kernel
theorem dX9_fit_8 : decode cX9_fit 8 = .ok (.ifCond .eq 33, 3) := by decide +kernel
theorem dX9_fit_11 : decode cX9_fit 11 = .ok (.aload_n 0, 1) := by decide +kernel
theorem dX9_fit_12 : decode cX9_fit 12 = .ok (.getfield 19, 3) := by decide +kernel
theorem dX9_fit_15 : decode cX9_fit 15 = .ok (.aload_n 0, 1) := by decide +kernel
theorem dX9_fit_16 : decode cX9_fit 16 = .ok (.getfield 26, 3) := by decide +kernel
theorem dX9_fit_19 : decode cX9_fit 19 = .ok (.getfield 105, 3) := by decide +kernel
theorem dX9_fit_22 : decode cX9_fit 22 = .ok (.iload_n 1, 1) := by decide +kernel
theorem dX9_fit_23 : decode cX9_fit 23 = .ok (.iaload, 1) := by decide +kernel
theorem dX9_fit_24 : decode cX9_fit 24 = .ok (.aload_n 0, 1) := by decide +kernel
theorem dX9_fit_25 : decode cX9_fit 25 = .ok (.getfield 26, 3) := by decide +kernel
theorem dX9_fit_28 : decode cX9_fit 28 = .ok (.getfield 109, 3) := by decide +kernel
theorem dX9_fit_31 : decode cX9_fit 31 = .ok (.iload_n 1, 1) := by decide +kernel
theorem dX9_fit_32 : decode cX9_fit 32 = .ok (.iaload, 1) := by decide +kernel
theorem dX9_fit_33 : decode cX9_fit 33 = .ok (.iload_n 2, 1) := by decide +kernel
theorem dX9_fit_34 : decode cX9_fit 34 = .ok (.iload_n 3, 1) := by decide +kernel
theorem dX9_fit_35 : decode cX9_fit 35 = .ok (.invokevirtual 112, 3) := by decide +kernel
theorem dX9_fit_38 : decode cX9_fit 38 = .ok (.goto 4, 3) := by decide +kernel
theorem dX9_fit_41 : decode cX9_fit 41 = .ok (.iconst (-1), 1) := by decide +kernel
theorem dX9_fit_42 : decode cX9_fit 42 = .ok (.ireturn, 1) := by decide +kernel
theorem dX9_best_0 : decode cX9_best 0 = .ok (.aload_n 0, 1) := by decide +kernel
theorem dX9_best_1 : decode cX9_best 1 = .ok (.getfield 26, 3) := by decide +kernel
theorem dX9_best_4 : decode cX9_best 4 = .ok (.iload_n 1, 1) := by decide +kernel
theorem dX9_best_5 : decode cX9_best 5 = .ok (.invokevirtual 101, 3) := by decide +kernel
theorem dX9_best_8 : decode cX9_best 8 = .ok (.ifCond .eq 31, 3) := by decide +kernel
theorem dX9_best_11 : decode cX9_best 11 = .ok (.aload_n 0, 1) := by decide +kernel
theorem dX9_best_12 : decode cX9_best 12 = .ok (.getfield 19, 3) := by decide +kernel
theorem dX9_best_15 : decode cX9_best 15 = .ok (.aload_n 0, 1) := by decide +kernel
theorem dX9_best_16 : decode cX9_best 16 = .ok (.getfield 26, 3) := by decide +kernel
theorem dX9_best_19 : decode cX9_best 19 = .ok (.getfield 105, 3) := by decide +kernel
theorem dX9_best_22 : decode cX9_best 22 = .ok (.iload_n 1, 1) := by decide +kernel
theorem dX9_best_23 : decode cX9_best 23 = .ok (.iaload, 1) := by decide +kernel
theorem dX9_best_24 : decode cX9_best 24 = .ok (.aload_n 0, 1) := by decide +kernel
theorem dX9_best_25 : decode cX9_best 25 = .ok (.getfield 26, 3) := by decide +kernel
theorem dX9_best_28 : decode cX9_best 28 = .ok (.getfield 109, 3) := by decide +kernel
theorem dX9_best_31 : decode cX9_best 31 = .ok (.iload_n 1, 1) := by decide +kernel
theorem dX9_best_32 : decode cX9_best 32 = .ok (.iaload, 1) := by decide +kernel
theorem dX9_best_33 : decode cX9_best 33 = .ok (.invokevirtual 116, 3) := by decide +kernel
theorem dX9_best_36 : decode cX9_best 36 = .ok (.goto 4, 3) := by decide +kernel
theorem dX9_best_39 : decode cX9_best 39 = .ok (.iconst (-1), 1) := by decide +kernel
theorem dX9_best_40 : decode cX9_best 40 = .ok (.ireturn, 1) := by decide +kernel
theorem dX9_parse_0 : decode cX9_parse 0 = .ok (.aload_n 0, 1) := by decide +kernel
theorem dX9_parse_1 : decode cX9_parse 1 = .ok (.getfield 40, 3) := by decide +kernel
theorem dX9_parse_4 : decode cX9_parse 4 = .ok (.getfield 91, 3) := by decide +kernel
theorem dX9_parse_7 : decode cX9_parse 7 = .ok (.ifCond .eq 13, 3) := by decide +kernel
theorem dX9_parse_10 : decode cX9_parse 10 = .ok (.aload_n 0, 1) := by decide +kernel
theorem dX9_parse_11 : decode cX9_parse 11 = .ok (.getfield 26, 3) := by decide +kernel
theorem dX9_parse_14 : decode cX9_parse 14 = .ok (.getfield 98, 3) := by decide +kernel
theorem dX9_parse_17 : decode cX9_parse 17 = .ok (.ifCond .ne 5, 3) := by decide +kernel
theorem dX9_parse_20 : decode cX9_parse 20 = .ok (.iconst (-1), 1) := by decide +kernel
theorem dX9_parse_21 : decode cX9_parse 21 = .ok (.ireturn, 1) := by decide +kernel
theorem dX9_parse_22 : decode cX9_parse 22 = .ok (.aload_n 0, 1) := by decide +kernel
theorem dX9_parse_23 : decode cX9_parse 23 = .ok (.getfield 54, 3) := by decide +kernel
theorem dX9_parse_26 : decode cX9_parse 26 = .ok (.aload_n 0, 1) := by decide +kernel
theorem dX9_parse_27 : decode cX9_parse 27 = .ok (.getfield 40, 3) := by decide +kernel
theorem dX9_parse_30 : decode cX9_parse 30 = .ok (.aload_n 0, 1) := by decide +kernel
theorem dX9_parse_31 : decode cX9_parse 31 = .ok (.getfield 26, 3) := by decide +kernel
theorem dX9_parse_34 : decode cX9_parse 34 = .ok (.aload_n 0, 1) := by decide +kernel
theorem dX9_parse_35 : decode cX9_parse 35 = .ok (.getfield 12, 3) := by decide +kernel
theorem dX9_parse_38 : decode cX9_parse 38 = .ok (.aload_n 0, 1) := by decide +kernel
theorem dX9_parse_39 : decode cX9_parse 39 = .ok (.getfield 19, 3) := by decide +kernel
theorem dX9_parse_42 : decode cX9_parse 42 = .ok (.invokevirtual 120, 3) := by decide +kernel
theorem dX9_parse_45 : decode cX9_parse 45 = .ok (.aload_n 0, 1) := by decide +kernel
theorem dX9_parse_46 : decode cX9_parse 46 = .ok (.getfield 61, 3) := by decide +kernel
theorem dX9_parse_49 : decode cX9_parse 49 = .ok (.iconst (-1), 1) := by decide +kernel
theorem dX9_parse_50 : decode cX9_parse 50 = .ok (.putfield 124, 3) := by decide +kernel
theorem dX9_parse_53 : decode cX9_parse 53 = .ok (.aload_n 0, 1) := by decide +kernel
theorem dX9_parse_54 : decode cX9_parse 54 = .ok (.getfield 54, 3) := by decide +kernel
theorem dX9_parse_57 : decode cX9_parse 57 = .ok (.invokevirtual 127, 3) := by decide +kernel
theorem dX9_parse_60 : decode cX9_parse 60 = .ok (.ireturn, 1) := by decide +kernel
theorem dX9_readings_0 : decode cX9_readings 0 = .ok (.aload_n 0, 1) := by decide +kernel
theorem dX9_readings_1 : decode cX9_readings 1 = .ok (.getfield 54, 3) := by decide +kernel
theorem dX9_readings_4 : decode cX9_readings 4 = .ok (.invokevirtual 131, 3) := by decide +kernel
theorem dX9_readings_7 : decode cX9_readings 7 = .ok (.lreturn, 1) := by decide +kernel
theorem dX9_price_0 : decode cX9_price 0 = .ok (.aload_n 0, 1) := by decide +kernel
theorem dX9_price_1 : decode cX9_price 1 = .ok (.iload_n 1, 1) := by decide +kernel
theorem dX9_price_2 : decode cX9_price 2 = .ok (.invokevirtual 135, 3) := by decide +kernel
theorem dX9_price_5 : decode cX9_price 5 = .ok (.ifCond .eq 14, 3) := by decide +kernel
theorem dX9_price_8 : decode cX9_price 8 = .ok (.aload_n 0, 1) := by decide +kernel
theorem dX9_price_9 : decode cX9_price 9 = .ok (.getfield 54, 3) := by decide +kernel
theorem dX9_price_12 : decode cX9_price 12 = .ok (.iload_n 1, 1) := by decide +kernel
theorem dX9_price_13 : decode cX9_price 13 = .ok (.invokevirtual 138, 3) := by decide +kernel
theorem dX9_price_16 : decode cX9_price 16 = .ok (.goto 4, 3) := by decide +kernel
theorem dX9_price_19 : decode cX9_price 19 = .ok (.iconst (-1), 1) := by decide +kernel
theorem dX9_price_20 : decode cX9_price 20 = .ok (.ireturn, 1) := by decide +kernel
theorem dX9_node_0 : decode cX9_node 0 = .ok (.aload_n 0, 1) := by decide +kernel
theorem dX9_node_1 : decode cX9_node 1 = .ok (.iload_n 1, 1) := by decide +kernel
theorem dX9_node_2 : decode cX9_node 2 = .ok (.invokevirtual 135, 3) := by decide +kernel
theorem dX9_node_5 : decode cX9_node 5 = .ok (.ifCond .ne 5, 3) := by decide +kernel
theorem dX9_node_8 : decode cX9_node 8 = .ok (.iconst (-1), 1) := by decide +kernel
theorem dX9_node_9 : decode cX9_node 9 = .ok (.ireturn, 1) := by decide +kernel
theorem dX9_node_10 : decode cX9_node 10 = .ok (.aload_n 0, 1) := by decide +kernel
theorem dX9_node_11 : decode cX9_node 11 = .ok (.iload_n 1, 1) := by decide +kernel
theorem dX9_node_12 : decode cX9_node 12 = .ok (.invokevirtual 142, 3) := by decide +kernel
theorem dX9_node_15 : decode cX9_node 15 = .ok (.pop, 1) := by decide +kernel
theorem dX9_node_16 : decode cX9_node 16 = .ok (.iload_n 2, 1) := by decide +kernel
theorem dX9_node_17 : decode cX9_node 17 = .ok (.ifCond .lt 14, 3) := by decide +kernel
theorem dX9_node_20 : decode cX9_node 20 = .ok (.iload_n 2, 1) := by decide +kernel
theorem dX9_node_21 : decode cX9_node 21 = .ok (.aload_n 0, 1) := by decide +kernel
theorem dX9_node_22 : decode cX9_node 22 = .ok (.getfield 61, 3) := by decide +kernel
theorem dX9_node_25 : decode cX9_node 25 = .ok (.getfield 146, 3) := by decide +kernel
theorem dX9_node_28 : decode cX9_node 28 = .ok (.if_icmp .lt 5, 3) := by decide +kernel
theorem dX9_node_31 : decode cX9_node 31 = .ok (.iconst (-1), 1) := by decide +kernel
theorem dX9_node_32 : decode cX9_node 32 = .ok (.ireturn, 1) := by decide +kernel
theorem dX9_node_33 : decode cX9_node 33 = .ok (.iload_n 3, 1) := by decide +kernel
theorem dX9_node_34 : decode cX9_node 34 = .ok (.tableswitch 70 0 3 #[30, 40, 50, 60], 30) := by decide +kernel
theorem dX9_node_64 : decode cX9_node 64 = .ok (.aload_n 0, 1) := by decide +kernel
theorem dX9_node_65 : decode cX9_node 65 = .ok (.getfield 61, 3) := by decide +kernel
theorem dX9_node_68 : decode cX9_node 68 = .ok (.getfield 147, 3) := by decide +kernel
theorem dX9_node_71 : decode cX9_node 71 = .ok (.iload_n 2, 1) := by decide +kernel
theorem dX9_node_72 : decode cX9_node 72 = .ok (.iaload, 1) := by decide +kernel
theorem dX9_node_73 : decode cX9_node 73 = .ok (.ireturn, 1) := by decide +kernel
theorem dX9_node_74 : decode cX9_node 74 = .ok (.aload_n 0, 1) := by decide +kernel
theorem dX9_node_75 : decode cX9_node 75 = .ok (.getfield 61, 3) := by decide +kernel
theorem dX9_node_78 : decode cX9_node 78 = .ok (.getfield 149, 3) := by decide +kernel
theorem dX9_node_81 : decode cX9_node 81 = .ok (.iload_n 2, 1) := by decide +kernel
theorem dX9_node_82 : decode cX9_node 82 = .ok (.iaload, 1) := by decide +kernel
theorem dX9_node_83 : decode cX9_node 83 = .ok (.ireturn, 1) := by decide +kernel
theorem dX9_node_84 : decode cX9_node 84 = .ok (.aload_n 0, 1) := by decide +kernel
theorem dX9_node_85 : decode cX9_node 85 = .ok (.getfield 61, 3) := by decide +kernel
theorem dX9_node_88 : decode cX9_node 88 = .ok (.getfield 152, 3) := by decide +kernel
theorem dX9_node_91 : decode cX9_node 91 = .ok (.iload_n 2, 1) := by decide +kernel
theorem dX9_node_92 : decode cX9_node 92 = .ok (.iaload, 1) := by decide +kernel
theorem dX9_node_93 : decode cX9_node 93 = .ok (.ireturn, 1) := by decide +kernel
theorem dX9_node_94 : decode cX9_node 94 = .ok (.aload_n 0, 1) := by decide +kernel
theorem dX9_node_95 : decode cX9_node 95 = .ok (.getfield 61, 3) := by decide +kernel
theorem dX9_node_98 : decode cX9_node 98 = .ok (.getfield 155, 3) := by decide +kernel
theorem dX9_node_101 : decode cX9_node 101 = .ok (.iload_n 2, 1) := by decide +kernel
theorem dX9_node_102 : decode cX9_node 102 = .ok (.iaload, 1) := by decide +kernel
theorem dX9_node_103 : decode cX9_node 103 = .ok (.ireturn, 1) := by decide +kernel
theorem dX9_node_104 : decode cX9_node 104 = .ok (.iconst (-1), 1) := by decide +kernel
theorem dX9_node_105 : decode cX9_node 105 = .ok (.ireturn, 1) := by decide +kernel
theorem dX9_nodes_0 : decode cX9_nodes 0 = .ok (.aload_n 0, 1) := by decide +kernel
theorem dX9_nodes_1 : decode cX9_nodes 1 = .ok (.iload_n 1, 1) := by decide +kernel
theorem dX9_nodes_2 : decode cX9_nodes 2 = .ok (.invokevirtual 135, 3) := by decide +kernel
theorem dX9_nodes_5 : decode cX9_nodes 5 = .ok (.ifCond .eq 14, 3) := by decide +kernel
theorem dX9_nodes_8 : decode cX9_nodes 8 = .ok (.aload_n 0, 1) := by decide +kernel
theorem dX9_nodes_9 : decode cX9_nodes 9 = .ok (.iload_n 1, 1) := by decide +kernel
theorem dX9_nodes_10 : decode cX9_nodes 10 = .ok (.invokevirtual 142, 3) := by decide +kernel
theorem dX9_nodes_13 : decode cX9_nodes 13 = .ok (.getfield 146, 3) := by decide +kernel
theorem dX9_nodes_16 : decode cX9_nodes 16 = .ok (.goto 4, 3) := by decide +kernel
theorem dX9_nodes_19 : decode cX9_nodes 19 = .ok (.iconst (-1), 1) := by decide +kernel
theorem dX9_nodes_20 : decode cX9_nodes 20 = .ok (.ireturn, 1) := by decide +kernel
theorem dX9_chord_0 : decode cX9_chord 0 = .ok (.aload_n 0, 1) := by decide +kernel
theorem dX9_chord_1 : decode cX9_chord 1 = .ok (.iload_n 1, 1) := by decide +kernel
theorem dX9_chord_2 : decode cX9_chord 2 = .ok (.invokevirtual 135, 3) := by decide +kernel
theorem dX9_chord_5 : decode cX9_chord 5 = .ok (.ifCond .eq 27, 3) := by decide +kernel
theorem dX9_chord_8 : decode cX9_chord 8 = .ok (.aload_n 0, 1) := by decide +kernel
theorem dX9_chord_9 : decode cX9_chord 9 = .ok (.getfield 54, 3) := by decide +kernel
theorem dX9_chord_12 : decode cX9_chord 12 = .ok (.iload_n 2, 1) := by decide +kernel
theorem dX9_chord_13 : decode cX9_chord 13 = .ok (.invokevirtual 158, 3) := by decide +kernel
theorem dX9_chord_16 : decode cX9_chord 16 = .ok (.ifCond .eq 16, 3) := by decide +kernel
theorem dX9_chord_19 : decode cX9_chord 19 = .ok (.aload_n 0, 1) := by decide +kernel
theorem dX9_chord_20 : decode cX9_chord 20 = .ok (.iload_n 1, 1) := by decide +kernel
theorem dX9_chord_21 : decode cX9_chord 21 = .ok (.invokevirtual 142, 3) := by decide +kernel
theorem dX9_chord_24 : decode cX9_chord 24 = .ok (.getfield 161, 3) := by decide +kernel
theorem dX9_chord_27 : decode cX9_chord 27 = .ok (.iload_n 2, 1) := by decide +kernel
theorem dX9_chord_28 : decode cX9_chord 28 = .ok (.iaload, 1) := by decide +kernel
theorem dX9_chord_29 : decode cX9_chord 29 = .ok (.goto 4, 3) := by decide +kernel
theorem dX9_chord_32 : decode cX9_chord 32 = .ok (.iconst (-1), 1) := by decide +kernel
theorem dX9_chord_33 : decode cX9_chord 33 = .ok (.ireturn, 1) := by decide +kernel
theorem dX9_cadence_0 : decode cX9_cadence 0 = .ok (.aload_n 0, 1) := by decide +kernel
theorem dX9_cadence_1 : decode cX9_cadence 1 = .ok (.iload_n 1, 1) := by decide +kernel
theorem dX9_cadence_2 : decode cX9_cadence 2 = .ok (.invokevirtual 135, 3) := by decide +kernel
theorem dX9_cadence_5 : decode cX9_cadence 5 = .ok (.ifCond .ne 5, 3) := by decide +kernel
theorem dX9_cadence_8 : decode cX9_cadence 8 = .ok (.iconst (-1), 1) := by decide +kernel
theorem dX9_cadence_9 : decode cX9_cadence 9 = .ok (.ireturn, 1) := by decide +kernel
theorem dX9_cadence_10 : decode cX9_cadence 10 = .ok (.aload_n 0, 1) := by decide +kernel
theorem dX9_cadence_11 : decode cX9_cadence 11 = .ok (.iload_n 1, 1) := by decide +kernel
theorem dX9_cadence_12 : decode cX9_cadence 12 = .ok (.invokevirtual 142, 3) := by decide +kernel
theorem dX9_cadence_15 : decode cX9_cadence 15 = .ok (.pop, 1) := by decide +kernel
theorem dX9_cadence_16 : decode cX9_cadence 16 = .ok (.aload_n 0, 1) := by decide +kernel
theorem dX9_cadence_17 : decode cX9_cadence 17 = .ok (.getfield 61, 3) := by decide +kernel
theorem dX9_cadence_20 : decode cX9_cadence 20 = .ok (.aload_n 0, 1) := by decide +kernel
theorem dX9_cadence_21 : decode cX9_cadence 21 = .ok (.getfield 54, 3) := by decide +kernel
theorem dX9_cadence_24 : decode cX9_cadence 24 = .ok (.getfield 164, 3) := by decide +kernel
theorem dX9_cadence_27 : decode cX9_cadence 27 = .ok (.iconst 2, 1) := by decide +kernel
theorem dX9_cadence_28 : decode cX9_cadence 28 = .ok (.isub, 1) := by decide +kernel
theorem dX9_cadence_29 : decode cX9_cadence 29 = .ok (.invokevirtual 166, 3) := by decide +kernel
theorem dX9_cadence_32 : decode cX9_cadence 32 = .ok (.aload_n 0, 1) := by decide +kernel
theorem dX9_cadence_33 : decode cX9_cadence 33 = .ok (.getfield 61, 3) := by decide +kernel
theorem dX9_cadence_36 : decode cX9_cadence 36 = .ok (.aload_n 0, 1) := by decide +kernel
theorem dX9_cadence_37 : decode cX9_cadence 37 = .ok (.getfield 54, 3) := by decide +kernel
theorem dX9_cadence_40 : decode cX9_cadence 40 = .ok (.getfield 164, 3) := by decide +kernel
theorem dX9_cadence_43 : decode cX9_cadence 43 = .ok (.iconst 1, 1) := by decide +kernel
theorem dX9_cadence_44 : decode cX9_cadence 44 = .ok (.isub, 1) := by decide +kernel
theorem dX9_cadence_45 : decode cX9_cadence 45 = .ok (.invokevirtual 166, 3) := by decide +kernel
theorem dX9_cadence_48 : decode cX9_cadence 48 = .ok (.invokestatic 169, 3) := by decide +kernel
theorem dX9_cadence_51 : decode cX9_cadence 51 = .ok (.ireturn, 1) := by decide +kernel
theorem dX9_melody_0 : decode cX9_melody 0 = .ok (.aload_n 0, 1) := by decide +kernel
theorem dX9_melody_1 : decode cX9_melody 1 = .ok (.iload_n 1, 1) := by decide +kernel
theorem dX9_melody_2 : decode cX9_melody 2 = .ok (.invokevirtual 135, 3) := by decide +kernel
theorem dX9_melody_5 : decode cX9_melody 5 = .ok (.ifCond .ne 5, 3) := by decide +kernel
theorem dX9_melody_8 : decode cX9_melody 8 = .ok (.iconst (-1), 1) := by decide +kernel
theorem dX9_melody_9 : decode cX9_melody 9 = .ok (.ireturn, 1) := by decide +kernel
theorem dX9_melody_10 : decode cX9_melody 10 = .ok (.aload_n 0, 1) := by decide +kernel
theorem dX9_melody_11 : decode cX9_melody 11 = .ok (.getfield 54, 3) := by decide +kernel
theorem dX9_melody_14 : decode cX9_melody 14 = .ok (.iload_n 2, 1) := by decide +kernel
theorem dX9_melody_15 : decode cX9_melody 15 = .ok (.invokevirtual 172, 3) := by decide +kernel
theorem dX9_melody_18 : decode cX9_melody 18 = .ok (.istore_n 3, 1) := by decide +kernel
theorem dX9_melody_19 : decode cX9_melody 19 = .ok (.aload_n 0, 1) := by decide +kernel
theorem dX9_melody_20 : decode cX9_melody 20 = .ok (.iload_n 1, 1) := by decide +kernel
theorem dX9_melody_21 : decode cX9_melody 21 = .ok (.iload_n 2, 1) := by decide +kernel
theorem dX9_melody_22 : decode cX9_melody 22 = .ok (.invokevirtual 175, 3) := by decide +kernel
theorem dX9_melody_25 : decode cX9_melody 25 = .ok (.istore 4, 2) := by decide +kernel
theorem dX9_melody_27 : decode cX9_melody 27 = .ok (.iload_n 3, 1) := by decide +kernel
theorem dX9_melody_28 : decode cX9_melody 28 = .ok (.iconst (-1), 1) := by decide +kernel
theorem dX9_melody_29 : decode cX9_melody 29 = .ok (.if_icmp .eq 9, 3) := by decide +kernel
theorem dX9_melody_32 : decode cX9_melody 32 = .ok (.iload 4, 2) := by decide +kernel
theorem dX9_melody_34 : decode cX9_melody 34 = .ok (.iconst (-1), 1) := by decide +kernel
theorem dX9_melody_35 : decode cX9_melody 35 = .ok (.if_icmp .ne 5, 3) := by decide +kernel
theorem dX9_melody_38 : decode cX9_melody 38 = .ok (.iconst (-1), 1) := by decide +kernel
theorem dX9_melody_39 : decode cX9_melody 39 = .ok (.ireturn, 1) := by decide +kernel
theorem dX9_melody_40 : decode cX9_melody 40 = .ok (.iload 4, 2) := by decide +kernel
theorem dX9_melody_42 : decode cX9_melody 42 = .ok (.bipush 12, 2) := by decide +kernel
theorem dX9_melody_44 : decode cX9_melody 44 = .ok (.irem, 1) := by decide +kernel
theorem dX9_melody_45 : decode cX9_melody 45 = .ok (.iload 4, 2) := by decide +kernel
theorem dX9_melody_47 : decode cX9_melody 47 = .ok (.bipush 12, 2) := by decide +kernel
theorem dX9_melody_49 : decode cX9_melody 49 = .ok (.idiv, 1) := by decide +kernel
theorem dX9_melody_50 : decode cX9_melody 50 = .ok (.invokestatic 178, 3) := by decide +kernel
theorem dX9_melody_53 : decode cX9_melody 53 = .ok (.iload_n 3, 1) := by decide +kernel
theorem dX9_melody_54 : decode cX9_melody 54 = .ok (.bipush 12, 2) := by decide +kernel
theorem dX9_melody_56 : decode cX9_melody 56 = .ok (.irem, 1) := by decide +kernel
theorem dX9_melody_57 : decode cX9_melody 57 = .ok (.iushr, 1) := by decide +kernel
theorem dX9_melody_58 : decode cX9_melody 58 = .ok (.iconst 1, 1) := by decide +kernel
theorem dX9_melody_59 : decode cX9_melody 59 = .ok (.iand, 1) := by decide +kernel
theorem dX9_melody_60 : decode cX9_melody 60 = .ok (.ifCond .eq 5, 3) := by decide +kernel
theorem dX9_melody_63 : decode cX9_melody 63 = .ok (.iconst 0, 1) := by decide +kernel
theorem dX9_melody_64 : decode cX9_melody 64 = .ok (.ireturn, 1) := by decide +kernel
theorem dX9_melody_65 : decode cX9_melody 65 = .ok (.aload_n 0, 1) := by decide +kernel
theorem dX9_melody_66 : decode cX9_melody 66 = .ok (.getfield 54, 3) := by decide +kernel
theorem dX9_melody_69 : decode cX9_melody 69 = .ok (.iload_n 2, 1) := by decide +kernel
theorem dX9_melody_70 : decode cX9_melody 70 = .ok (.iconst 1, 1) := by decide +kernel
theorem dX9_melody_71 : decode cX9_melody 71 = .ok (.isub, 1) := by decide +kernel
theorem dX9_melody_72 : decode cX9_melody 72 = .ok (.invokevirtual 172, 3) := by decide +kernel
theorem dX9_melody_75 : decode cX9_melody 75 = .ok (.iload_n 3, 1) := by decide +kernel
theorem dX9_melody_76 : decode cX9_melody 76 = .ok (.aload_n 0, 1) := by decide +kernel
theorem dX9_melody_77 : decode cX9_melody 77 = .ok (.getfield 54, 3) := by decide +kernel
theorem dX9_melody_80 : decode cX9_melody 80 = .ok (.iload_n 2, 1) := by decide +kernel
theorem dX9_melody_81 : decode cX9_melody 81 = .ok (.iconst 1, 1) := by decide +kernel
theorem dX9_melody_82 : decode cX9_melody 82 = .ok (.iadd, 1) := by decide +kernel
theorem dX9_melody_83 : decode cX9_melody 83 = .ok (.invokevirtual 172, 3) := by decide +kernel
theorem dX9_melody_86 : decode cX9_melody 86 = .ok (.invokestatic 181, 3) := by decide +kernel
theorem dX9_melody_89 : decode cX9_melody 89 = .ok (.ireturn, 1) := by decide +kernel
theorem dX9_cell_0 : decode cX9_cell 0 = .ok (.iload_n 1, 1) := by decide +kernel
theorem dX9_cell_1 : decode cX9_cell 1 = .ok (.ifCond .lt 29, 3) := by decide +kernel
theorem dX9_cell_4 : decode cX9_cell 4 = .ok (.iload_n 1, 1) := by decide +kernel
theorem dX9_cell_5 : decode cX9_cell 5 = .ok (.iload_n 2, 1) := by decide +kernel
theorem dX9_cell_6 : decode cX9_cell 6 = .ok (.if_icmp .gt 24, 3) := by decide +kernel
theorem dX9_cell_9 : decode cX9_cell 9 = .ok (.iload_n 2, 1) := by decide +kernel
theorem dX9_cell_10 : decode cX9_cell 10 = .ok (.aload_n 0, 1) := by decide +kernel
theorem dX9_cell_11 : decode cX9_cell 11 = .ok (.getfield 54, 3) := by decide +kernel
theorem dX9_cell_14 : decode cX9_cell 14 = .ok (.getfield 164, 3) := by decide +kernel
theorem dX9_cell_17 : decode cX9_cell 17 = .ok (.if_icmp .ge 13, 3) := by decide +kernel
theorem dX9_cell_20 : decode cX9_cell 20 = .ok (.iload_n 3, 1) := by decide +kernel
theorem dX9_cell_21 : decode cX9_cell 21 = .ok (.ifCond .lt 9, 3) := by decide +kernel
theorem dX9_cell_24 : decode cX9_cell 24 = .ok (.iload_n 3, 1) := by decide +kernel
theorem dX9_cell_25 : decode cX9_cell 25 = .ok (.bipush 26, 2) := by decide +kernel
theorem dX9_cell_27 : decode cX9_cell 27 = .ok (.if_icmp .lt 13, 3) := by decide +kernel
theorem dX9_cell_30 : decode cX9_cell 30 = .ok (.new 184, 3) := by decide +kernel
theorem dX9_cell_33 : decode cX9_cell 33 = .ok (.dup, 1) := by decide +kernel
theorem dX9_cell_34 : decode cX9_cell 34 = .ok (.ldc 186, 2) := by decide +kernel
theorem dX9_cell_36 : decode cX9_cell 36 = .ok (.invokespecial 188, 3) := by decide +kernel
theorem dX9_cell_39 : decode cX9_cell 39 = .ok (.athrow, 1) := by decide +kernel
theorem dX9_cell_40 : decode cX9_cell 40 = .ok (.aload_n 0, 1) := by decide +kernel
theorem dX9_cell_41 : decode cX9_cell 41 = .ok (.getfield 54, 3) := by decide +kernel
theorem dX9_cell_44 : decode cX9_cell 44 = .ok (.iload_n 3, 1) := by decide +kernel
theorem dX9_cell_45 : decode cX9_cell 45 = .ok (.iload_n 1, 1) := by decide +kernel
theorem dX9_cell_46 : decode cX9_cell 46 = .ok (.iload_n 2, 1) := by decide +kernel
theorem dX9_cell_47 : decode cX9_cell 47 = .ok (.invokevirtual 191, 3) := by decide +kernel
theorem dX9_cell_50 : decode cX9_cell 50 = .ok (.lreturn, 1) := by decide +kernel
theorem dX9_told_0 : decode cX9_told 0 = .ok (.iload_n 1, 1) := by decide +kernel
theorem dX9_told_1 : decode cX9_told 1 = .ok (.tableswitch 75 0 4 #[35, 43, 51, 59, 67], 35) := by decide +kernel
theorem dX9_told_36 : decode cX9_told 36 = .ok (.aload_n 0, 1) := by decide +kernel
theorem dX9_told_37 : decode cX9_told 37 = .ok (.getfield 26, 3) := by decide +kernel
theorem dX9_told_40 : decode cX9_told 40 = .ok (.getfield 98, 3) := by decide +kernel
theorem dX9_told_43 : decode cX9_told 43 = .ok (.ireturn, 1) := by decide +kernel
theorem dX9_told_44 : decode cX9_told 44 = .ok (.aload_n 0, 1) := by decide +kernel
theorem dX9_told_45 : decode cX9_told 45 = .ok (.getfield 40, 3) := by decide +kernel
theorem dX9_told_48 : decode cX9_told 48 = .ok (.getfield 91, 3) := by decide +kernel
theorem dX9_told_51 : decode cX9_told 51 = .ok (.ireturn, 1) := by decide +kernel
theorem dX9_told_52 : decode cX9_told 52 = .ok (.aload_n 0, 1) := by decide +kernel
theorem dX9_told_53 : decode cX9_told 53 = .ok (.getfield 33, 3) := by decide +kernel
theorem dX9_told_56 : decode cX9_told 56 = .ok (.getfield 80, 3) := by decide +kernel
theorem dX9_told_59 : decode cX9_told 59 = .ok (.ireturn, 1) := by decide +kernel
theorem dX9_told_60 : decode cX9_told 60 = .ok (.aload_n 0, 1) := by decide +kernel
theorem dX9_told_61 : decode cX9_told 61 = .ok (.getfield 54, 3) := by decide +kernel
theorem dX9_told_64 : decode cX9_told 64 = .ok (.invokevirtual 127, 3) := by decide +kernel
theorem dX9_told_67 : decode cX9_told 67 = .ok (.ireturn, 1) := by decide +kernel
theorem dX9_told_68 : decode cX9_told 68 = .ok (.aload_n 0, 1) := by decide +kernel
theorem dX9_told_69 : decode cX9_told 69 = .ok (.getfield 54, 3) := by decide +kernel
theorem dX9_told_72 : decode cX9_told 72 = .ok (.getfield 164, 3) := by decide +kernel
theorem dX9_told_75 : decode cX9_told 75 = .ok (.ireturn, 1) := by decide +kernel
theorem dX9_told_76 : decode cX9_told 76 = .ok (.iconst (-1), 1) := by decide +kernel
theorem dX9_told_77 : decode cX9_told 77 = .ok (.ireturn, 1) := by decide +kernel
theorem dX9_isListed_0 : decode cX9_isListed 0 = .ok (.iload_n 1, 1) := by decide +kernel
theorem dX9_isListed_1 : decode cX9_isListed 1 = .ok (.ifCond .lt 18, 3) := by decide +kernel
theorem dX9_isListed_4 : decode cX9_isListed 4 = .ok (.iload_n 1, 1) := by decide +kernel
theorem dX9_isListed_5 : decode cX9_isListed 5 = .ok (.aload_n 0, 1) := by decide +kernel
theorem dX9_isListed_6 : decode cX9_isListed 6 = .ok (.getfield 54, 3) := by decide +kernel
theorem dX9_isListed_9 : decode cX9_isListed 9 = .ok (.invokevirtual 127, 3) := by decide +kernel
theorem dX9_isListed_12 : decode cX9_isListed 12 = .ok (.if_icmp .ge 7, 3) := by decide +kernel
theorem dX9_isListed_15 : decode cX9_isListed 15 = .ok (.iconst 1, 1) := by decide +kernel
theorem dX9_isListed_16 : decode cX9_isListed 16 = .ok (.goto 4, 3) := by decide +kernel
theorem dX9_isListed_19 : decode cX9_isListed 19 = .ok (.iconst 0, 1) := by decide +kernel
theorem dX9_isListed_20 : decode cX9_isListed 20 = .ok (.ireturn, 1) := by decide +kernel
theorem dX9_treeOf_0 : decode cX9_treeOf 0 = .ok (.aload_n 0, 1) := by decide +kernel
theorem dX9_treeOf_1 : decode cX9_treeOf 1 = .ok (.getfield 61, 3) := by decide +kernel
theorem dX9_treeOf_4 : decode cX9_treeOf 4 = .ok (.getfield 124, 3) := by decide +kernel
theorem dX9_treeOf_7 : decode cX9_treeOf 7 = .ok (.iload_n 1, 1) := by decide +kernel
theorem dX9_treeOf_8 : decode cX9_treeOf 8 = .ok (.if_icmp .eq 15, 3) := by decide +kernel
theorem dX9_treeOf_11 : decode cX9_treeOf 11 = .ok (.aload_n 0, 1) := by decide +kernel
theorem dX9_treeOf_12 : decode cX9_treeOf 12 = .ok (.getfield 61, 3) := by decide +kernel
theorem dX9_treeOf_15 : decode cX9_treeOf 15 = .ok (.aload_n 0, 1) := by decide +kernel
theorem dX9_treeOf_16 : decode cX9_treeOf 16 = .ok (.getfield 54, 3) := by decide +kernel
theorem dX9_treeOf_19 : decode cX9_treeOf 19 = .ok (.iload_n 1, 1) := by decide +kernel
theorem dX9_treeOf_20 : decode cX9_treeOf 20 = .ok (.invokevirtual 195, 3) := by decide +kernel
theorem dX9_treeOf_23 : decode cX9_treeOf 23 = .ok (.aload_n 0, 1) := by decide +kernel
theorem dX9_treeOf_24 : decode cX9_treeOf 24 = .ok (.getfield 61, 3) := by decide +kernel
theorem dX9_treeOf_27 : decode cX9_treeOf 27 = .ok (.areturn, 1) := by decide +kernel
theorem dX9_chordSet_0 : decode cX9_chordSet 0 = .ok (.iload_n 0, 1) := by decide +kernel
theorem dX9_chordSet_1 : decode cX9_chordSet 1 = .ok (.ifCond .lt 19, 3) := by decide +kernel
theorem dX9_chordSet_4 : decode cX9_chordSet 4 = .ok (.iload_n 0, 1) := by decide +kernel
theorem dX9_chordSet_5 : decode cX9_chordSet 5 = .ok (.bipush 12, 2) := by decide +kernel
theorem dX9_chordSet_7 : decode cX9_chordSet 7 = .ok (.if_icmp .ge 13, 3) := by decide +kernel
theorem dX9_chordSet_10 : decode cX9_chordSet 10 = .ok (.iload_n 1, 1) := by decide +kernel
theorem dX9_chordSet_11 : decode cX9_chordSet 11 = .ok (.ifCond .lt 9, 3) := by decide +kernel
theorem dX9_chordSet_14 : decode cX9_chordSet 14 = .ok (.iload_n 1, 1) := by decide +kernel
theorem dX9_chordSet_15 : decode cX9_chordSet 15 = .ok (.bipush 9, 2) := by decide +kernel
theorem dX9_chordSet_17 : decode cX9_chordSet 17 = .ok (.if_icmp .lt 5, 3) := by decide +kernel
theorem dX9_chordSet_20 : decode cX9_chordSet 20 = .ok (.iconst 0, 1) := by decide +kernel
theorem dX9_chordSet_21 : decode cX9_chordSet 21 = .ok (.ireturn, 1) := by decide +kernel
theorem dX9_chordSet_22 : decode cX9_chordSet 22 = .ok (.getstatic 199, 3) := by decide +kernel
theorem dX9_chordSet_25 : decode cX9_chordSet 25 = .ok (.iload_n 1, 1) := by decide +kernel
theorem dX9_chordSet_26 : decode cX9_chordSet 26 = .ok (.iaload, 1) := by decide +kernel
theorem dX9_chordSet_27 : decode cX9_chordSet 27 = .ok (.iload_n 0, 1) := by decide +kernel
theorem dX9_chordSet_28 : decode cX9_chordSet 28 = .ok (.ishl, 1) := by decide +kernel
theorem dX9_chordSet_29 : decode cX9_chordSet 29 = .ok (.istore_n 2, 1) := by decide +kernel
theorem dX9_chordSet_30 : decode cX9_chordSet 30 = .ok (.iload_n 2, 1) := by decide +kernel
theorem dX9_chordSet_31 : decode cX9_chordSet 31 = .ok (.iload_n 2, 1) := by decide +kernel
theorem dX9_chordSet_32 : decode cX9_chordSet 32 = .ok (.bipush 12, 2) := by decide +kernel
theorem dX9_chordSet_34 : decode cX9_chordSet 34 = .ok (.iushr, 1) := by decide +kernel
theorem dX9_chordSet_35 : decode cX9_chordSet 35 = .ok (.ior, 1) := by decide +kernel
theorem dX9_chordSet_36 : decode cX9_chordSet 36 = .ok (.sipush 4095, 3) := by decide +kernel
theorem dX9_chordSet_39 : decode cX9_chordSet 39 = .ok (.iand, 1) := by decide +kernel
theorem dX9_chordSet_40 : decode cX9_chordSet 40 = .ok (.ireturn, 1) := by decide +kernel
theorem dX9_ending_0 : decode cX9_ending 0 = .ok (.iload_n 1, 1) := by decide +kernel
theorem dX9_ending_1 : decode cX9_ending 1 = .ok (.iconst 1, 1) := by decide +kernel
theorem dX9_ending_2 : decode cX9_ending 2 = .ok (.if_icmp .ne 10, 3) := by decide +kernel
theorem dX9_ending_5 : decode cX9_ending 5 = .ok (.iload_n 0, 1) := by decide +kernel
theorem dX9_ending_6 : decode cX9_ending 6 = .ok (.iconst 5, 1) := by decide +kernel
theorem dX9_ending_7 : decode cX9_ending 7 = .ok (.if_icmp .ne 5, 3) := by decide +kernel
theorem dX9_ending_10 : decode cX9_ending 10 = .ok (.iconst 1, 1) := by decide +kernel
theorem dX9_ending_11 : decode cX9_ending 11 = .ok (.ireturn, 1) := by decide +kernel
theorem dX9_ending_12 : decode cX9_ending 12 = .ok (.iload_n 1, 1) := by decide +kernel
theorem dX9_ending_13 : decode cX9_ending 13 = .ok (.iconst 1, 1) := by decide +kernel
theorem dX9_ending_14 : decode cX9_ending 14 = .ok (.if_icmp .ne 10, 3) := by decide +kernel
theorem dX9_ending_17 : decode cX9_ending 17 = .ok (.iload_n 0, 1) := by decide +kernel
theorem dX9_ending_18 : decode cX9_ending 18 = .ok (.iconst 4, 1) := by decide +kernel
theorem dX9_ending_19 : decode cX9_ending 19 = .ok (.if_icmp .ne 5, 3) := by decide +kernel
theorem dX9_ending_22 : decode cX9_ending 22 = .ok (.iconst 2, 1) := by decide +kernel
theorem dX9_ending_23 : decode cX9_ending 23 = .ok (.ireturn, 1) := by decide +kernel
theorem dX9_ending_24 : decode cX9_ending 24 = .ok (.iload_n 1, 1) := by decide +kernel
theorem dX9_ending_25 : decode cX9_ending 25 = .ok (.iconst 5, 1) := by decide +kernel
theorem dX9_ending_26 : decode cX9_ending 26 = .ok (.if_icmp .ne 5, 3) := by decide +kernel
theorem dX9_ending_29 : decode cX9_ending 29 = .ok (.iconst 3, 1) := by decide +kernel
theorem dX9_ending_30 : decode cX9_ending 30 = .ok (.ireturn, 1) := by decide +kernel
theorem dX9_ending_31 : decode cX9_ending 31 = .ok (.iload_n 1, 1) := by decide +kernel
theorem dX9_ending_32 : decode cX9_ending 32 = .ok (.bipush 6, 2) := by decide +kernel
theorem dX9_ending_34 : decode cX9_ending 34 = .ok (.if_icmp .ne 12, 3) := by decide +kernel
theorem dX9_ending_37 : decode cX9_ending 37 = .ok (.iload_n 0, 1) := by decide +kernel
theorem dX9_ending_38 : decode cX9_ending 38 = .ok (.iconst 5, 1) := by decide +kernel
theorem dX9_ending_39 : decode cX9_ending 39 = .ok (.if_icmp .ne 7, 3) := by decide +kernel
theorem dX9_ending_42 : decode cX9_ending 42 = .ok (.iconst 4, 1) := by decide +kernel
theorem dX9_ending_43 : decode cX9_ending 43 = .ok (.goto 4, 3) := by decide +kernel
theorem dX9_ending_46 : decode cX9_ending 46 = .ok (.iconst 0, 1) := by decide +kernel
theorem dX9_ending_47 : decode cX9_ending 47 = .ok (.ireturn, 1) := by decide +kernel
theorem dX9_strangerNote_0 : decode cX9_strangerNote 0 = .ok (.iload_n 2, 1) := by decide +kernel
theorem dX9_strangerNote_1 : decode cX9_strangerNote 1 = .ok (.iconst (-1), 1) := by decide +kernel
theorem dX9_strangerNote_2 : decode cX9_strangerNote 2 = .ok (.if_icmp .ne 6, 3) := by decide +kernel
theorem dX9_strangerNote_5 : decode cX9_strangerNote 5 = .ok (.bipush 7, 2) := by decide +kernel
theorem dX9_strangerNote_7 : decode cX9_strangerNote 7 = .ok (.ireturn, 1) := by decide +kernel
theorem dX9_strangerNote_8 : decode cX9_strangerNote 8 = .ok (.iload_n 2, 1) := by decide +kernel
theorem dX9_strangerNote_9 : decode cX9_strangerNote 9 = .ok (.iload_n 1, 1) := by decide +kernel
theorem dX9_strangerNote_10 : decode cX9_strangerNote 10 = .ok (.isub, 1) := by decide +kernel
theorem dX9_strangerNote_11 : decode cX9_strangerNote 11 = .ok (.istore_n 3, 1) := by decide +kernel
theorem dX9_strangerNote_12 : decode cX9_strangerNote 12 = .ok (.iload_n 0, 1) := by decide +kernel
theorem dX9_strangerNote_13 : decode cX9_strangerNote 13 = .ok (.iconst (-1), 1) := by decide +kernel
theorem dX9_strangerNote_14 : decode cX9_strangerNote 14 = .ok (.if_icmp .ne 14, 3) := by decide +kernel
theorem dX9_strangerNote_17 : decode cX9_strangerNote 17 = .ok (.iload_n 3, 1) := by decide +kernel
theorem dX9_strangerNote_18 : decode cX9_strangerNote 18 = .ok (.ifCond .ne 7, 3) := by decide +kernel
theorem dX9_strangerNote_21 : decode cX9_strangerNote 21 = .ok (.iconst 4, 1) := by decide +kernel
theorem dX9_strangerNote_22 : decode cX9_strangerNote 22 = .ok (.goto 5, 3) := by decide +kernel
theorem dX9_strangerNote_25 : decode cX9_strangerNote 25 = .ok (.bipush 7, 2) := by decide +kernel
theorem dX9_strangerNote_27 : decode cX9_strangerNote 27 = .ok (.ireturn, 1) := by decide +kernel
theorem dX9_strangerNote_28 : decode cX9_strangerNote 28 = .ok (.iload_n 1, 1) := by decide +kernel
theorem dX9_strangerNote_29 : decode cX9_strangerNote 29 = .ok (.iload_n 0, 1) := by decide +kernel
theorem dX9_strangerNote_30 : decode cX9_strangerNote 30 = .ok (.isub, 1) := by decide +kernel
theorem dX9_strangerNote_31 : decode cX9_strangerNote 31 = .ok (.istore 4, 2) := by decide +kernel
theorem dX9_strangerNote_33 : decode cX9_strangerNote 33 = .ok (.iload 4, 2) := by decide +kernel
theorem dX9_strangerNote_35 : decode cX9_strangerNote 35 = .ok (.ifCond .le 7, 3) := by decide +kernel
theorem dX9_strangerNote_38 : decode cX9_strangerNote 38 = .ok (.iload_n 3, 1) := by decide +kernel
theorem dX9_strangerNote_39 : decode cX9_strangerNote 39 = .ok (.ifCond .lt 12, 3) := by decide +kernel
theorem dX9_strangerNote_42 : decode cX9_strangerNote 42 = .ok (.iload 4, 2) := by decide +kernel
theorem dX9_strangerNote_44 : decode cX9_strangerNote 44 = .ok (.ifCond .ge 11, 3) := by decide +kernel
theorem dX9_strangerNote_47 : decode cX9_strangerNote 47 = .ok (.iload_n 3, 1) := by decide +kernel
theorem dX9_strangerNote_48 : decode cX9_strangerNote 48 = .ok (.ifCond .le 7, 3) := by decide +kernel
theorem dX9_strangerNote_51 : decode cX9_strangerNote 51 = .ok (.iconst 1, 1) := by decide +kernel
theorem dX9_strangerNote_52 : decode cX9_strangerNote 52 = .ok (.goto 4, 3) := by decide +kernel
theorem dX9_strangerNote_55 : decode cX9_strangerNote 55 = .ok (.iconst 0, 1) := by decide +kernel
theorem dX9_strangerNote_56 : decode cX9_strangerNote 56 = .ok (.istore 5, 2) := by decide +kernel
theorem dX9_strangerNote_58 : decode cX9_strangerNote 58 = .ok (.iload 4, 2) := by decide +kernel
theorem dX9_strangerNote_60 : decode cX9_strangerNote 60 = .ok (.invokestatic 202, 3) := by decide +kernel
theorem dX9_strangerNote_63 : decode cX9_strangerNote 63 = .ok (.ifCond .eq 17, 3) := by decide +kernel
theorem dX9_strangerNote_66 : decode cX9_strangerNote 66 = .ok (.iload_n 3, 1) := by decide +kernel
theorem dX9_strangerNote_67 : decode cX9_strangerNote 67 = .ok (.invokestatic 202, 3) := by decide +kernel
theorem dX9_strangerNote_70 : decode cX9_strangerNote 70 = .ok (.ifCond .eq 10, 3) := by decide +kernel
theorem dX9_strangerNote_73 : decode cX9_strangerNote 73 = .ok (.iload 5, 2) := by decide +kernel
theorem dX9_strangerNote_75 : decode cX9_strangerNote 75 = .ok (.ifCond .ne 5, 3) := by decide +kernel
theorem dX9_strangerNote_78 : decode cX9_strangerNote 78 = .ok (.iconst 1, 1) := by decide +kernel
theorem dX9_strangerNote_79 : decode cX9_strangerNote 79 = .ok (.ireturn, 1) := by decide +kernel
theorem dX9_strangerNote_80 : decode cX9_strangerNote 80 = .ok (.iload 4, 2) := by decide +kernel
theorem dX9_strangerNote_82 : decode cX9_strangerNote 82 = .ok (.invokestatic 202, 3) := by decide +kernel
theorem dX9_strangerNote_85 : decode cX9_strangerNote 85 = .ok (.ifCond .eq 10, 3) := by decide +kernel
theorem dX9_strangerNote_88 : decode cX9_strangerNote 88 = .ok (.iload_n 2, 1) := by decide +kernel
theorem dX9_strangerNote_89 : decode cX9_strangerNote 89 = .ok (.iload_n 0, 1) := by decide +kernel
theorem dX9_strangerNote_90 : decode cX9_strangerNote 90 = .ok (.if_icmp .ne 5, 3) := by decide +kernel
theorem dX9_strangerNote_93 : decode cX9_strangerNote 93 = .ok (.iconst 2, 1) := by decide +kernel
theorem dX9_strangerNote_94 : decode cX9_strangerNote 94 = .ok (.ireturn, 1) := by decide +kernel
theorem dX9_strangerNote_95 : decode cX9_strangerNote 95 = .ok (.iload 4, 2) := by decide +kernel
theorem dX9_strangerNote_97 : decode cX9_strangerNote 97 = .ok (.ifCond .ne 16, 3) := by decide +kernel
theorem dX9_strangerNote_100 : decode cX9_strangerNote 100 = .ok (.iload_n 3, 1) := by decide +kernel
theorem dX9_strangerNote_101 : decode cX9_strangerNote 101 = .ok (.invokestatic 202, 3) := by decide +kernel
theorem dX9_strangerNote_104 : decode cX9_strangerNote 104 = .ok (.ifCond .eq 9, 3) := by decide +kernel
theorem dX9_strangerNote_107 : decode cX9_strangerNote 107 = .ok (.iload_n 3, 1) := by decide +kernel
theorem dX9_strangerNote_108 : decode cX9_strangerNote 108 = .ok (.ifCond .ge 5, 3) := by decide +kernel
theorem dX9_strangerNote_111 : decode cX9_strangerNote 111 = .ok (.iconst 3, 1) := by decide +kernel
theorem dX9_strangerNote_112 : decode cX9_strangerNote 112 = .ok (.ireturn, 1) := by decide +kernel
theorem dX9_strangerNote_113 : decode cX9_strangerNote 113 = .ok (.iload_n 3, 1) := by decide +kernel
theorem dX9_strangerNote_114 : decode cX9_strangerNote 114 = .ok (.ifCond .ne 5, 3) := by decide +kernel
theorem dX9_strangerNote_117 : decode cX9_strangerNote 117 = .ok (.iconst 4, 1) := by decide +kernel
theorem dX9_strangerNote_118 : decode cX9_strangerNote 118 = .ok (.ireturn, 1) := by decide +kernel
theorem dX9_strangerNote_119 : decode cX9_strangerNote 119 = .ok (.iload 4, 2) := by decide +kernel
theorem dX9_strangerNote_121 : decode cX9_strangerNote 121 = .ok (.invokestatic 205, 3) := by decide +kernel
theorem dX9_strangerNote_124 : decode cX9_strangerNote 124 = .ok (.ifCond .eq 17, 3) := by decide +kernel
theorem dX9_strangerNote_127 : decode cX9_strangerNote 127 = .ok (.iload_n 3, 1) := by decide +kernel
theorem dX9_strangerNote_128 : decode cX9_strangerNote 128 = .ok (.invokestatic 202, 3) := by decide +kernel
theorem dX9_strangerNote_131 : decode cX9_strangerNote 131 = .ok (.ifCond .eq 10, 3) := by decide +kernel
theorem dX9_strangerNote_134 : decode cX9_strangerNote 134 = .ok (.iload 5, 2) := by decide +kernel
theorem dX9_strangerNote_136 : decode cX9_strangerNote 136 = .ok (.ifCond .eq 5, 3) := by decide +kernel
theorem dX9_strangerNote_139 : decode cX9_strangerNote 139 = .ok (.iconst 5, 1) := by decide +kernel
theorem dX9_strangerNote_140 : decode cX9_strangerNote 140 = .ok (.ireturn, 1) := by decide +kernel
theorem dX9_strangerNote_141 : decode cX9_strangerNote 141 = .ok (.iload 4, 2) := by decide +kernel
theorem dX9_strangerNote_143 : decode cX9_strangerNote 143 = .ok (.invokestatic 202, 3) := by decide +kernel
theorem dX9_strangerNote_146 : decode cX9_strangerNote 146 = .ok (.ifCond .eq 20, 3) := by decide +kernel
theorem dX9_strangerNote_149 : decode cX9_strangerNote 149 = .ok (.iload_n 3, 1) := by decide +kernel
theorem dX9_strangerNote_150 : decode cX9_strangerNote 150 = .ok (.invokestatic 205, 3) := by decide +kernel
theorem dX9_strangerNote_153 : decode cX9_strangerNote 153 = .ok (.ifCond .eq 13, 3) := by decide +kernel
theorem dX9_strangerNote_156 : decode cX9_strangerNote 156 = .ok (.iload 5, 2) := by decide +kernel
theorem dX9_strangerNote_158 : decode cX9_strangerNote 158 = .ok (.ifCond .eq 8, 3) := by decide +kernel
theorem dX9_strangerNote_161 : decode cX9_strangerNote 161 = .ok (.bipush 6, 2) := by decide +kernel
theorem dX9_strangerNote_163 : decode cX9_strangerNote 163 = .ok (.goto 5, 3) := by decide +kernel
theorem dX9_strangerNote_166 : decode cX9_strangerNote 166 = .ok (.bipush 7, 2) := by decide +kernel
theorem dX9_strangerNote_168 : decode cX9_strangerNote 168 = .ok (.ireturn, 1) := by decide +kernel
theorem dX9_isStep_0 : decode cX9_isStep 0 = .ok (.iload_n 0, 1) := by decide +kernel
theorem dX9_isStep_1 : decode cX9_isStep 1 = .ok (.ifCond .eq 14, 3) := by decide +kernel
theorem dX9_isStep_4 : decode cX9_isStep 4 = .ok (.iload_n 0, 1) := by decide +kernel
theorem dX9_isStep_5 : decode cX9_isStep 5 = .ok (.invokestatic 205, 3) := by decide +kernel
theorem dX9_isStep_8 : decode cX9_isStep 8 = .ok (.ifCond .ne 7, 3) := by decide +kernel
theorem dX9_isStep_11 : decode cX9_isStep 11 = .ok (.iconst 1, 1) := by decide +kernel
theorem dX9_isStep_12 : decode cX9_isStep 12 = .ok (.goto 4, 3) := by decide +kernel
theorem dX9_isStep_15 : decode cX9_isStep 15 = .ok (.iconst 0, 1) := by decide +kernel
theorem dX9_isStep_16 : decode cX9_isStep 16 = .ok (.ireturn, 1) := by decide +kernel
theorem dX9_isLeap_0 : decode cX9_isLeap 0 = .ok (.iload_n 0, 1) := by decide +kernel
theorem dX9_isLeap_1 : decode cX9_isLeap 1 = .ok (.iconst 2, 1) := by decide +kernel
theorem dX9_isLeap_2 : decode cX9_isLeap 2 = .ok (.if_icmp .gt 9, 3) := by decide +kernel
theorem dX9_isLeap_5 : decode cX9_isLeap 5 = .ok (.iload_n 0, 1) := by decide +kernel
theorem dX9_isLeap_6 : decode cX9_isLeap 6 = .ok (.bipush (-2), 2) := by decide +kernel
theorem dX9_isLeap_8 : decode cX9_isLeap 8 = .ok (.if_icmp .ge 7, 3) := by decide +kernel
theorem dX9_isLeap_11 : decode cX9_isLeap 11 = .ok (.iconst 1, 1) := by decide +kernel
theorem dX9_isLeap_12 : decode cX9_isLeap 12 = .ok (.goto 4, 3) := by decide +kernel
theorem dX9_isLeap_15 : decode cX9_isLeap 15 = .ok (.iconst 0, 1) := by decide +kernel
theorem dX9_isLeap_16 : decode cX9_isLeap 16 = .ok (.ireturn, 1) := by decide +kernel
theorem dX10_init_0 : decode cX10_init 0 = .ok (.aload_n 0, 1) := by decide +kernel
theorem dX10_init_1 : decode cX10_init 1 = .ok (.invokespecial 1, 3) := by decide +kernel
theorem dX10_init_4 : decode cX10_init 4 = .ok (.aload_n 0, 1) := by decide +kernel
theorem dX10_init_5 : decode cX10_init 5 = .ok (.iconst 4, 1) := by decide +kernel
theorem dX10_init_6 : decode cX10_init 6 = .ok (.newarray .int, 2) := by decide +kernel
theorem dX10_init_8 : decode cX10_init 8 = .ok (.putfield 7, 3) := by decide +kernel
theorem dX10_init_11 : decode cX10_init 11 = .ok (.aload_n 0, 1) := by decide +kernel
theorem dX10_init_12 : decode cX10_init 12 = .ok (.sipush 800, 3) := by decide +kernel
theorem dX10_init_15 : decode cX10_init 15 = .ok (.newarray .int, 2) := by decide +kernel
theorem dX10_init_17 : decode cX10_init 17 = .ok (.putfield 13, 3) := by decide +kernel
theorem dX10_init_20 : decode cX10_init 20 = .ok (.aload_n 0, 1) := by decide +kernel
theorem dX10_init_21 : decode cX10_init 21 = .ok (.bipush 24, 2) := by decide +kernel
theorem dX10_init_23 : decode cX10_init 23 = .ok (.newarray .int, 2) := by decide +kernel
theorem dX10_init_25 : decode cX10_init 25 = .ok (.putfield 16, 3) := by decide +kernel
theorem dX10_init_28 : decode cX10_init 28 = .ok (.aload_n 0, 1) := by decide +kernel
theorem dX10_init_29 : decode cX10_init 29 = .ok (.bipush 24, 2) := by decide +kernel
theorem dX10_init_31 : decode cX10_init 31 = .ok (.newarray .int, 2) := by decide +kernel
theorem dX10_init_33 : decode cX10_init 33 = .ok (.putfield 19, 3) := by decide +kernel
theorem dX10_init_36 : decode cX10_init 36 = .ok (.aload_n 0, 1) := by decide +kernel
theorem dX10_init_37 : decode cX10_init 37 = .ok (.bipush 24, 2) := by decide +kernel
theorem dX10_init_39 : decode cX10_init 39 = .ok (.newarray .int, 2) := by decide +kernel
theorem dX10_init_41 : decode cX10_init 41 = .ok (.putfield 22, 3) := by decide +kernel
theorem dX10_init_44 : decode cX10_init 44 = .ok (.aload_n 0, 1) := by decide +kernel
theorem dX10_init_45 : decode cX10_init 45 = .ok (.bipush 60, 2) := by decide +kernel
theorem dX10_init_47 : decode cX10_init 47 = .ok (.newarray .int, 2) := by decide +kernel
theorem dX10_init_49 : decode cX10_init 49 = .ok (.putfield 25, 3) := by decide +kernel
theorem dX10_init_52 : decode cX10_init 52 = .ok (.aload_n 0, 1) := by decide +kernel
theorem dX10_init_53 : decode cX10_init 53 = .ok (.bipush 60, 2) := by decide +kernel
theorem dX10_init_55 : decode cX10_init 55 = .ok (.newarray .int, 2) := by decide +kernel
theorem dX10_init_57 : decode cX10_init 57 = .ok (.putfield 28, 3) := by decide +kernel
theorem dX10_init_60 : decode cX10_init 60 = .ok (.aload_n 0, 1) := by decide +kernel
theorem dX10_init_61 : decode cX10_init 61 = .ok (.bipush 60, 2) := by decide +kernel
theorem dX10_init_63 : decode cX10_init 63 = .ok (.newarray .int, 2) := by decide +kernel
theorem dX10_init_65 : decode cX10_init 65 = .ok (.putfield 31, 3) := by decide +kernel
theorem dX10_init_68 : decode cX10_init 68 = .ok (.aload_n 0, 1) := by decide +kernel
theorem dX10_init_69 : decode cX10_init 69 = .ok (.bipush 60, 2) := by decide +kernel
theorem dX10_init_71 : decode cX10_init 71 = .ok (.newarray .int, 2) := by decide +kernel
theorem dX10_init_73 : decode cX10_init 73 = .ok (.putfield 34, 3) := by decide +kernel
theorem dX10_init_76 : decode cX10_init 76 = .ok (.aload_n 0, 1) := by decide +kernel
theorem dX10_init_77 : decode cX10_init 77 = .ok (.bipush 61, 2) := by decide +kernel
theorem dX10_init_79 : decode cX10_init 79 = .ok (.newarray .int, 2) := by decide +kernel
theorem dX10_init_81 : decode cX10_init 81 = .ok (.putfield 37, 3) := by decide +kernel
theorem dX10_init_84 : decode cX10_init 84 = .ok (.aload_n 0, 1) := by decide +kernel
theorem dX10_init_85 : decode cX10_init 85 = .ok (.bipush 61, 2) := by decide +kernel
theorem dX10_init_87 : decode cX10_init 87 = .ok (.newarray .int, 2) := by decide +kernel
theorem dX10_init_89 : decode cX10_init 89 = .ok (.putfield 40, 3) := by decide +kernel
theorem dX10_init_92 : decode cX10_init 92 = .ok (.aload_n 0, 1) := by decide +kernel
theorem dX10_init_93 : decode cX10_init 93 = .ok (.bipush 61, 2) := by decide +kernel
theorem dX10_init_95 : decode cX10_init 95 = .ok (.newarray .int, 2) := by decide +kernel
theorem dX10_init_97 : decode cX10_init 97 = .ok (.putfield 43, 3) := by decide +kernel
theorem dX10_init_100 : decode cX10_init 100 = .ok (.aload_n 0, 1) := by decide +kernel
theorem dX10_init_101 : decode cX10_init 101 = .ok (.bipush 61, 2) := by decide +kernel
theorem dX10_init_103 : decode cX10_init 103 = .ok (.newarray .int, 2) := by decide +kernel
theorem dX10_init_105 : decode cX10_init 105 = .ok (.putfield 46, 3) := by decide +kernel
theorem dX10_init_108 : decode cX10_init 108 = .ok (.aload_n 0, 1) := by decide +kernel
theorem dX10_init_109 : decode cX10_init 109 = .ok (.bipush 61, 2) := by decide +kernel
theorem dX10_init_111 : decode cX10_init 111 = .ok (.newarray .int, 2) := by decide +kernel
theorem dX10_init_113 : decode cX10_init 113 = .ok (.putfield 49, 3) := by decide +kernel
theorem dX10_init_116 : decode cX10_init 116 = .ok (.aload_n 0, 1) := by decide +kernel
theorem dX10_init_117 : decode cX10_init 117 = .ok (.sipush 676, 3) := by decide +kernel
theorem dX10_init_120 : decode cX10_init 120 = .ok (.newarray .boolean, 2) := by decide +kernel
theorem dX10_init_122 : decode cX10_init 122 = .ok (.putfield 52, 3) := by decide +kernel
theorem dX10_init_125 : decode cX10_init 125 = .ok (.aload_n 0, 1) := by decide +kernel
theorem dX10_init_126 : decode cX10_init 126 = .ok (.bipush 60, 2) := by decide +kernel
theorem dX10_init_128 : decode cX10_init 128 = .ok (.newarray .int, 2) := by decide +kernel
theorem dX10_init_130 : decode cX10_init 130 = .ok (.putfield 56, 3) := by decide +kernel
theorem dX10_init_133 : decode cX10_init 133 = .ok (.aload_n 0, 1) := by decide +kernel
theorem dX10_init_134 : decode cX10_init 134 = .ok (.bipush 60, 2) := by decide +kernel
theorem dX10_init_136 : decode cX10_init 136 = .ok (.newarray .int, 2) := by decide +kernel
theorem dX10_init_138 : decode cX10_init 138 = .ok (.putfield 59, 3) := by decide +kernel
theorem dX10_init_141 : decode cX10_init 141 = .ok (.aload_n 0, 1) := by decide +kernel
theorem dX10_init_142 : decode cX10_init 142 = .ok (.bipush 60, 2) := by decide +kernel
theorem dX10_init_144 : decode cX10_init 144 = .ok (.newarray .int, 2) := by decide +kernel
theorem dX10_init_146 : decode cX10_init 146 = .ok (.putfield 62, 3) := by decide +kernel
theorem dX10_init_149 : decode cX10_init 149 = .ok (.aload_n 0, 1) := by decide +kernel
theorem dX10_init_150 : decode cX10_init 150 = .ok (.bipush 60, 2) := by decide +kernel
theorem dX10_init_152 : decode cX10_init 152 = .ok (.newarray .int, 2) := by decide +kernel
theorem dX10_init_154 : decode cX10_init 154 = .ok (.putfield 65, 3) := by decide +kernel
theorem dX10_init_157 : decode cX10_init 157 = .ok (.aload_n 0, 1) := by decide +kernel
theorem dX10_init_158 : decode cX10_init 158 = .ok (.bipush 24, 2) := by decide +kernel
theorem dX10_init_160 : decode cX10_init 160 = .ok (.newarray .int, 2) := by decide +kernel
theorem dX10_init_162 : decode cX10_init 162 = .ok (.putfield 68, 3) := by decide +kernel
theorem dX10_init_165 : decode cX10_init 165 = .ok (.aload_n 0, 1) := by decide +kernel
theorem dX10_init_166 : decode cX10_init 166 = .ok (.sipush 1920, 3) := by decide +kernel
theorem dX10_init_169 : decode cX10_init 169 = .ok (.newarray .int, 2) := by decide +kernel
theorem dX10_init_171 : decode cX10_init 171 = .ok (.putfield 71, 3) := by decide +kernel
theorem dX10_init_174 : decode cX10_init 174 = .ok (.aload_n 0, 1) := by decide +kernel
theorem dX10_init_175 : decode cX10_init 175 = .ok (.sipush 1920, 3) := by decide +kernel
theorem dX10_init_178 : decode cX10_init 178 = .ok (.newarray .int, 2) := by decide +kernel
theorem dX10_init_180 : decode cX10_init 180 = .ok (.putfield 74, 3) := by decide +kernel
theorem dX10_init_183 : decode cX10_init 183 = .ok (.aload_n 0, 1) := by decide +kernel
theorem dX10_init_184 : decode cX10_init 184 = .ok (.sipush 7800, 3) := by decide +kernel
theorem dX10_init_187 : decode cX10_init 187 = .ok (.newarray .int, 2) := by decide +kernel
theorem dX10_init_189 : decode cX10_init 189 = .ok (.putfield 77, 3) := by decide +kernel
theorem dX10_init_192 : decode cX10_init 192 = .ok (.aload_n 0, 1) := by decide +kernel
theorem dX10_init_193 : decode cX10_init 193 = .ok (.sipush 7800, 3) := by decide +kernel
theorem dX10_init_196 : decode cX10_init 196 = .ok (.newarray .long, 2) := by decide +kernel
theorem dX10_init_198 : decode cX10_init 198 = .ok (.putfield 80, 3) := by decide +kernel
theorem dX10_init_201 : decode cX10_init 201 = .ok (.aload_n 0, 1) := by decide +kernel
theorem dX10_init_202 : decode cX10_init 202 = .ok (.ldc 84, 2) := by decide +kernel
theorem dX10_init_204 : decode cX10_init 204 = .ok (.newarray .int, 2) := by decide +kernel
theorem dX10_init_206 : decode cX10_init 206 = .ok (.putfield 85, 3) := by decide +kernel
theorem dX10_init_209 : decode cX10_init 209 = .ok (.aload_n 0, 1) := by decide +kernel
theorem dX10_init_210 : decode cX10_init 210 = .ok (.ldc 84, 2) := by decide +kernel
theorem dX10_init_212 : decode cX10_init 212 = .ok (.newarray .int, 2) := by decide +kernel
theorem dX10_init_214 : decode cX10_init 214 = .ok (.putfield 88, 3) := by decide +kernel
theorem dX10_init_217 : decode cX10_init 217 = .ok (.aload_n 0, 1) := by decide +kernel
theorem dX10_init_218 : decode cX10_init 218 = .ok (.bipush 26, 2) := by decide +kernel
theorem dX10_init_220 : decode cX10_init 220 = .ok (.newarray .int, 2) := by decide +kernel
theorem dX10_init_222 : decode cX10_init 222 = .ok (.putfield 91, 3) := by decide +kernel
theorem dX10_init_225 : decode cX10_init 225 = .ok (.aload_n 0, 1) := by decide +kernel
theorem dX10_init_226 : decode cX10_init 226 = .ok (.bipush 64, 2) := by decide +kernel
theorem dX10_init_228 : decode cX10_init 228 = .ok (.newarray .int, 2) := by decide +kernel
theorem dX10_init_230 : decode cX10_init 230 = .ok (.putfield 94, 3) := by decide +kernel
theorem dX10_init_233 : decode cX10_init 233 = .ok (.aload_n 0, 1) := by decide +kernel
theorem dX10_init_234 : decode cX10_init 234 = .ok (.bipush 64, 2) := by decide +kernel
theorem dX10_init_236 : decode cX10_init 236 = .ok (.newarray .int, 2) := by decide +kernel
theorem dX10_init_238 : decode cX10_init 238 = .ok (.putfield 97, 3) := by decide +kernel
theorem dX10_init_241 : decode cX10_init 241 = .ok (.aload_n 0, 1) := by decide +kernel
theorem dX10_init_242 : decode cX10_init 242 = .ok (.bipush 64, 2) := by decide +kernel
theorem dX10_init_244 : decode cX10_init 244 = .ok (.newarray .int, 2) := by decide +kernel
theorem dX10_init_246 : decode cX10_init 246 = .ok (.putfield 100, 3) := by decide +kernel
theorem dX10_init_249 : decode cX10_init 249 = .ok (.aload_n 0, 1) := by decide +kernel
theorem dX10_init_250 : decode cX10_init 250 = .ok (.bipush 64, 2) := by decide +kernel
theorem dX10_init_252 : decode cX10_init 252 = .ok (.newarray .int, 2) := by decide +kernel
theorem dX10_init_254 : decode cX10_init 254 = .ok (.putfield 103, 3) := by decide +kernel
theorem dX10_init_257 : decode cX10_init 257 = .ok (.aload_n 0, 1) := by decide +kernel
theorem dX10_init_258 : decode cX10_init 258 = .ok (.getfield 7, 3) := by decide +kernel
theorem dX10_init_261 : decode cX10_init 261 = .ok (.iconst 0, 1) := by decide +kernel
theorem dX10_init_262 : decode cX10_init 262 = .ok (.iconst 4, 1) := by decide +kernel
theorem dX10_init_263 : decode cX10_init 263 = .ok (.iastore, 1) := by decide +kernel
theorem dX10_init_264 : decode cX10_init 264 = .ok (.aload_n 0, 1) := by decide +kernel
theorem dX10_init_265 : decode cX10_init 265 = .ok (.getfield 7, 3) := by decide +kernel
theorem dX10_init_268 : decode cX10_init 268 = .ok (.iconst 1, 1) := by decide +kernel
theorem dX10_init_269 : decode cX10_init 269 = .ok (.iconst 3, 1) := by decide +kernel
theorem dX10_init_270 : decode cX10_init 270 = .ok (.iastore, 1) := by decide +kernel
theorem dX10_init_271 : decode cX10_init 271 = .ok (.aload_n 0, 1) := by decide +kernel
theorem dX10_init_272 : decode cX10_init 272 = .ok (.getfield 7, 3) := by decide +kernel
theorem dX10_init_275 : decode cX10_init 275 = .ok (.iconst 2, 1) := by decide +kernel
theorem dX10_init_276 : decode cX10_init 276 = .ok (.iconst 1, 1) := by decide +kernel
theorem dX10_init_277 : decode cX10_init 277 = .ok (.iastore, 1) := by decide +kernel
theorem dX10_init_278 : decode cX10_init 278 = .ok (.aload_n 0, 1) := by decide +kernel
theorem dX10_init_279 : decode cX10_init 279 = .ok (.getfield 7, 3) := by decide +kernel
theorem dX10_init_282 : decode cX10_init 282 = .ok (.iconst 3, 1) := by decide +kernel
theorem dX10_init_283 : decode cX10_init 283 = .ok (.iconst 5, 1) := by decide +kernel
theorem dX10_init_284 : decode cX10_init 284 = .ok (.iastore, 1) := by decide +kernel
theorem dX10_init_285 : decode cX10_init 285 = .ok (.return_, 1) := by decide +kernel
theorem dX10_thrown_0 : decode cX10_thrown 0 = .ok (.aload_n 0, 1) := by decide +kernel
theorem dX10_thrown_1 : decode cX10_thrown 1 = .ok (.getfield 106, 3) := by decide +kernel
theorem dX10_thrown_4 : decode cX10_thrown 4 = .ok (.ireturn, 1) := by decide +kernel
theorem dX10_key_0 : decode cX10_key 0 = .ok (.aload_n 0, 1) := by decide +kernel
theorem dX10_key_1 : decode cX10_key 1 = .ok (.iconst 0, 1) := by decide +kernel
theorem dX10_key_2 : decode cX10_key 2 = .ok (.putfield 106, 3) := by decide +kernel
theorem dX10_key_5 : decode cX10_key 5 = .ok (.iload_n 1, 1) := by decide +kernel
theorem dX10_key_6 : decode cX10_key 6 = .ok (.ifCond .lt 9, 3) := by decide +kernel
theorem dX10_key_9 : decode cX10_key 9 = .ok (.iload_n 1, 1) := by decide +kernel
theorem dX10_key_10 : decode cX10_key 10 = .ok (.bipush 11, 2) := by decide +kernel
theorem dX10_key_12 : decode cX10_key 12 = .ok (.if_icmp .le 5, 3) := by decide +kernel
theorem dX10_key_15 : decode cX10_key 15 = .ok (.iconst 0, 1) := by decide +kernel
theorem dX10_key_16 : decode cX10_key 16 = .ok (.ireturn, 1) := by decide +kernel
theorem dX10_key_17 : decode cX10_key 17 = .ok (.aload_n 0, 1) := by decide +kernel
theorem dX10_key_18 : decode cX10_key 18 = .ok (.iload_n 1, 1) := by decide +kernel
theorem dX10_key_19 : decode cX10_key 19 = .ok (.putfield 110, 3) := by decide +kernel
theorem dX10_key_22 : decode cX10_key 22 = .ok (.aload_n 0, 1) := by decide +kernel
theorem dX10_key_23 : decode cX10_key 23 = .ok (.iload_n 2, 1) := by decide +kernel
theorem dX10_key_24 : decode cX10_key 24 = .ok (.putfield 113, 3) := by decide +kernel
theorem dX10_key_27 : decode cX10_key 27 = .ok (.iconst 1, 1) := by decide +kernel
theorem dX10_key_28 : decode cX10_key 28 = .ok (.ireturn, 1) := by decide +kernel
theorem dX10_cost_0 : decode cX10_cost 0 = .ok (.aload_n 0, 1) := by decide +kernel
theorem dX10_cost_1 : decode cX10_cost 1 = .ok (.iconst 0, 1) := by decide +kernel
theorem dX10_cost_2 : decode cX10_cost 2 = .ok (.putfield 106, 3) := by decide +kernel
theorem dX10_cost_5 : decode cX10_cost 5 = .ok (.iload_n 1, 1) := by decide +kernel
theorem dX10_cost_6 : decode cX10_cost 6 = .ok (.ifCond .lt 19, 3) := by decide +kernel
theorem dX10_cost_9 : decode cX10_cost 9 = .ok (.iload_n 1, 1) := by decide +kernel
theorem dX10_cost_10 : decode cX10_cost 10 = .ok (.iconst 3, 1) := by decide +kernel
theorem dX10_cost_11 : decode cX10_cost 11 = .ok (.if_icmp .gt 14, 3) := by decide +kernel
theorem dX10_cost_14 : decode cX10_cost 14 = .ok (.iload_n 2, 1) := by decide +kernel
theorem dX10_cost_15 : decode cX10_cost 15 = .ok (.ifCond .lt 10, 3) := by decide +kernel
theorem dX10_cost_18 : decode cX10_cost 18 = .ok (.iload_n 2, 1) := by decide +kernel
theorem dX10_cost_19 : decode cX10_cost 19 = .ok (.sipush 1000, 3) := by decide +kernel
theorem dX10_cost_22 : decode cX10_cost 22 = .ok (.if_icmp .le 5, 3) := by decide +kernel
theorem dX10_cost_25 : decode cX10_cost 25 = .ok (.iconst 0, 1) := by decide +kernel
theorem dX10_cost_26 : decode cX10_cost 26 = .ok (.ireturn, 1) := by decide +kernel
theorem dX10_cost_27 : decode cX10_cost 27 = .ok (.aload_n 0, 1) := by decide +kernel
theorem dX10_cost_28 : decode cX10_cost 28 = .ok (.getfield 7, 3) := by decide +kernel
theorem dX10_cost_31 : decode cX10_cost 31 = .ok (.iload_n 1, 1) := by decide +kernel
theorem dX10_cost_32 : decode cX10_cost 32 = .ok (.iload_n 2, 1) := by decide +kernel
theorem dX10_cost_33 : decode cX10_cost 33 = .ok (.iastore, 1) := by decide +kernel
theorem dX10_cost_34 : decode cX10_cost 34 = .ok (.iconst 1, 1) := by decide +kernel
theorem dX10_cost_35 : decode cX10_cost 35 = .ok (.ireturn, 1) := by decide +kernel
theorem dX10_draft_0 : decode cX10_draft 0 = .ok (.aload_n 0, 1) := by decide +kernel
theorem dX10_draft_1 : decode cX10_draft 1 = .ok (.iconst 0, 1) := by decide +kernel
theorem dX10_draft_2 : decode cX10_draft 2 = .ok (.putfield 106, 3) := by decide +kernel
theorem dX10_draft_5 : decode cX10_draft 5 = .ok (.iload_n 1, 1) := by decide +kernel
theorem dX10_draft_6 : decode cX10_draft 6 = .ok (.iconst 1, 1) := by decide +kernel
theorem dX10_draft_7 : decode cX10_draft 7 = .ok (.if_icmp .lt 21, 3) := by decide +kernel
theorem dX10_draft_10 : decode cX10_draft 10 = .ok (.iload_n 1, 1) := by decide +kernel
theorem dX10_draft_11 : decode cX10_draft 11 = .ok (.bipush 8, 2) := by decide +kernel
theorem dX10_draft_13 : decode cX10_draft 13 = .ok (.if_icmp .gt 15, 3) := by decide +kernel
theorem dX10_draft_16 : decode cX10_draft 16 = .ok (.aload_n 0, 1) := by decide +kernel
theorem dX10_draft_17 : decode cX10_draft 17 = .ok (.getfield 117, 3) := by decide +kernel
theorem dX10_draft_20 : decode cX10_draft 20 = .ok (.iload_n 1, 1) := by decide +kernel
theorem dX10_draft_21 : decode cX10_draft 21 = .ok (.iadd, 1) := by decide +kernel
theorem dX10_draft_22 : decode cX10_draft 22 = .ok (.sipush 800, 3) := by decide +kernel
theorem dX10_draft_25 : decode cX10_draft 25 = .ok (.if_icmp .le 5, 3) := by decide +kernel
theorem dX10_draft_28 : decode cX10_draft 28 = .ok (.iconst (-1), 1) := by decide +kernel
theorem dX10_draft_29 : decode cX10_draft 29 = .ok (.ireturn, 1) := by decide +kernel
theorem dX10_draft_30 : decode cX10_draft 30 = .ok (.iconst 0, 1) := by decide +kernel
theorem dX10_draft_31 : decode cX10_draft 31 = .ok (.istore 4, 2) := by decide +kernel
theorem dX10_draft_33 : decode cX10_draft 33 = .ok (.iload 4, 2) := by decide +kernel
theorem dX10_draft_35 : decode cX10_draft 35 = .ok (.iload_n 1, 1) := by decide +kernel
theorem dX10_draft_36 : decode cX10_draft 36 = .ok (.if_icmp .ge 40, 3) := by decide +kernel
theorem dX10_draft_39 : decode cX10_draft 39 = .ok (.aload_n 0, 1) := by decide +kernel
theorem dX10_draft_40 : decode cX10_draft 40 = .ok (.getfield 13, 3) := by decide +kernel
theorem dX10_draft_43 : decode cX10_draft 43 = .ok (.aload_n 0, 1) := by decide +kernel
theorem dX10_draft_44 : decode cX10_draft 44 = .ok (.getfield 117, 3) := by decide +kernel
theorem dX10_draft_47 : decode cX10_draft 47 = .ok (.lload_n 2, 1) := by decide +kernel
theorem dX10_draft_48 : decode cX10_draft 48 = .ok (.bipush 8, 2) := by decide +kernel
theorem dX10_draft_50 : decode cX10_draft 50 = .ok (.iload 4, 2) := by decide +kernel
theorem dX10_draft_52 : decode cX10_draft 52 = .ok (.imul, 1) := by decide +kernel
theorem dX10_draft_53 : decode cX10_draft 53 = .ok (.lshr, 1) := by decide +kernel
theorem dX10_draft_54 : decode cX10_draft 54 = .ok (.ldc2_w 120, 3) := by decide +kernel
theorem dX10_draft_57 : decode cX10_draft 57 = .ok (.land, 1) := by decide +kernel
theorem dX10_draft_58 : decode cX10_draft 58 = .ok (.l2i, 1) := by decide +kernel
theorem dX10_draft_59 : decode cX10_draft 59 = .ok (.iastore, 1) := by decide +kernel
theorem dX10_draft_60 : decode cX10_draft 60 = .ok (.aload_n 0, 1) := by decide +kernel
theorem dX10_draft_61 : decode cX10_draft 61 = .ok (.dup, 1) := by decide +kernel
theorem dX10_draft_62 : decode cX10_draft 62 = .ok (.getfield 117, 3) := by decide +kernel
theorem dX10_draft_65 : decode cX10_draft 65 = .ok (.iconst 1, 1) := by decide +kernel
theorem dX10_draft_66 : decode cX10_draft 66 = .ok (.iadd, 1) := by decide +kernel
theorem dX10_draft_67 : decode cX10_draft 67 = .ok (.putfield 117, 3) := by decide +kernel
theorem dX10_draft_70 : decode cX10_draft 70 = .ok (.iinc 4 1, 3) := by decide +kernel
theorem dX10_draft_73 : decode cX10_draft 73 = .ok (.goto (-40), 3) := by decide +kernel
theorem dX10_draft_76 : decode cX10_draft 76 = .ok (.aload_n 0, 1) := by decide +kernel
theorem dX10_draft_77 : decode cX10_draft 77 = .ok (.getfield 117, 3) := by decide +kernel
theorem dX10_draft_80 : decode cX10_draft 80 = .ok (.ireturn, 1) := by decide +kernel
theorem dX10_here_0 : decode cX10_here 0 = .ok (.aload_n 0, 1) := by decide +kernel
theorem dX10_here_1 : decode cX10_here 1 = .ok (.getfield 122, 3) := by decide +kernel
theorem dX10_here_4 : decode cX10_here 4 = .ok (.aload_n 0, 1) := by decide +kernel
theorem dX10_here_5 : decode cX10_here 5 = .ok (.getfield 117, 3) := by decide +kernel
theorem dX10_here_8 : decode cX10_here 8 = .ok (.if_icmp .ge 15, 3) := by decide +kernel
theorem dX10_here_11 : decode cX10_here 11 = .ok (.aload_n 0, 1) := by decide +kernel
theorem dX10_here_12 : decode cX10_here 12 = .ok (.getfield 13, 3) := by decide +kernel
theorem dX10_here_15 : decode cX10_here 15 = .ok (.aload_n 0, 1) := by decide +kernel
theorem dX10_here_16 : decode cX10_here 16 = .ok (.getfield 122, 3) := by decide +kernel
theorem dX10_here_19 : decode cX10_here 19 = .ok (.iaload, 1) := by decide +kernel
theorem dX10_here_20 : decode cX10_here 20 = .ok (.goto 4, 3) := by decide +kernel
theorem dX10_here_23 : decode cX10_here 23 = .ok (.iconst (-1), 1) := by decide +kernel
theorem dX10_here_24 : decode cX10_here 24 = .ok (.ireturn, 1) := by decide +kernel
theorem dX10_blanks_0 : decode cX10_blanks 0 = .ok (.aload_n 0, 1) := by decide +kernel
theorem dX10_blanks_1 : decode cX10_blanks 1 = .ok (.invokevirtual 125, 3) := by decide +kernel
theorem dX10_blanks_4 : decode cX10_blanks 4 = .ok (.bipush 32, 2) := by decide +kernel
theorem dX10_blanks_6 : decode cX10_blanks 6 = .ok (.if_icmp .ne 16, 3) := by decide +kernel
theorem dX10_blanks_9 : decode cX10_blanks 9 = .ok (.aload_n 0, 1) := by decide +kernel
theorem dX10_blanks_10 : decode cX10_blanks 10 = .ok (.dup, 1) := by decide +kernel
theorem dX10_blanks_11 : decode cX10_blanks 11 = .ok (.getfield 122, 3) := by decide +kernel
theorem dX10_blanks_14 : decode cX10_blanks 14 = .ok (.iconst 1, 1) := by decide +kernel
theorem dX10_blanks_15 : decode cX10_blanks 15 = .ok (.iadd, 1) := by decide +kernel
theorem dX10_blanks_16 : decode cX10_blanks 16 = .ok (.putfield 122, 3) := by decide +kernel
theorem dX10_blanks_19 : decode cX10_blanks 19 = .ok (.goto (-19), 3) := by decide +kernel
theorem dX10_blanks_22 : decode cX10_blanks 22 = .ok (.return_, 1) := by decide +kernel
theorem dX10_stop_0 : decode cX10_stop 0 = .ok (.aload_n 0, 1) := by decide +kernel
theorem dX10_stop_1 : decode cX10_stop 1 = .ok (.aload_n 0, 1) := by decide +kernel
theorem dX10_stop_2 : decode cX10_stop 2 = .ok (.getfield 129, 3) := by decide +kernel
theorem dX10_stop_5 : decode cX10_stop 5 = .ok (.ifCond .ge 7, 3) := by decide +kernel
theorem dX10_stop_8 : decode cX10_stop 8 = .ok (.iload_n 1, 1) := by decide +kernel
theorem dX10_stop_9 : decode cX10_stop 9 = .ok (.goto 7, 3) := by decide +kernel
theorem dX10_stop_12 : decode cX10_stop 12 = .ok (.aload_n 0, 1) := by decide +kernel
theorem dX10_stop_13 : decode cX10_stop 13 = .ok (.getfield 129, 3) := by decide +kernel
theorem dX10_stop_16 : decode cX10_stop 16 = .ok (.putfield 129, 3) := by decide +kernel
theorem dX10_stop_19 : decode cX10_stop 19 = .ok (.return_, 1) := by decide +kernel
theorem dX10_isName_0 : decode cX10_isName 0 = .ok (.iload_n 0, 1) := by decide +kernel
theorem dX10_isName_1 : decode cX10_isName 1 = .ok (.bipush 65, 2) := by decide +kernel
theorem dX10_isName_3 : decode cX10_isName 3 = .ok (.if_icmp .lt 13, 3) := by decide +kernel
theorem dX10_isName_6 : decode cX10_isName 6 = .ok (.iload_n 0, 1) := by decide +kernel
theorem dX10_isName_7 : decode cX10_isName 7 = .ok (.bipush 90, 2) := by decide +kernel
theorem dX10_isName_9 : decode cX10_isName 9 = .ok (.if_icmp .gt 7, 3) := by decide +kernel
theorem dX10_isName_12 : decode cX10_isName 12 = .ok (.iconst 1, 1) := by decide +kernel
theorem dX10_isName_13 : decode cX10_isName 13 = .ok (.goto 4, 3) := by decide +kernel
theorem dX10_isName_16 : decode cX10_isName 16 = .ok (.iconst 0, 1) := by decide +kernel
theorem dX10_isName_17 : decode cX10_isName 17 = .ok (.ireturn, 1) := by decide +kernel
theorem dX10_isDegree_0 : decode cX10_isDegree 0 = .ok (.iload_n 0, 1) := by decide +kernel
theorem dX10_isDegree_1 : decode cX10_isDegree 1 = .ok (.bipush 49, 2) := by decide +kernel
theorem dX10_isDegree_3 : decode cX10_isDegree 3 = .ok (.if_icmp .lt 13, 3) := by decide +kernel
theorem dX10_isDegree_6 : decode cX10_isDegree 6 = .ok (.iload_n 0, 1) := by decide +kernel
theorem dX10_isDegree_7 : decode cX10_isDegree 7 = .ok (.bipush 55, 2) := by decide +kernel
theorem dX10_isDegree_9 : decode cX10_isDegree 9 = .ok (.if_icmp .gt 7, 3) := by decide +kernel
theorem dX10_isDegree_12 : decode cX10_isDegree 12 = .ok (.iconst 1, 1) := by decide +kernel
theorem dX10_isDegree_13 : decode cX10_isDegree 13 = .ok (.goto 4, 3) := by decide +kernel
theorem dX10_isDegree_16 : decode cX10_isDegree 16 = .ok (.iconst 0, 1) := by decide +kernel
theorem dX10_isDegree_17 : decode cX10_isDegree 17 = .ok (.ireturn, 1) := by decide +kernel
theorem dX10_kindOf_0 : decode cX10_kindOf 0 = .ok (.iload_n 0, 1) := by decide +kernel
theorem dX10_kindOf_1 : decode cX10_kindOf 1 = .ok (.lookupswitch 104 #[(77, 83), (97, 89), (100, 87), (104, 98), (106, 93), (109, 85), (110, 95), (111, 101), (115, 91)], 83) := by decide +kernel
theorem dX10_kindOf_84 : decode cX10_kindOf 84 = .ok (.iconst 0, 1) := by decide +kernel
theorem dX10_kindOf_85 : decode cX10_kindOf 85 = .ok (.ireturn, 1) := by decide +kernel
theorem dX10_kindOf_86 : decode cX10_kindOf 86 = .ok (.iconst 1, 1) := by decide +kernel
theorem dX10_kindOf_87 : decode cX10_kindOf 87 = .ok (.ireturn, 1) := by decide +kernel
theorem dX10_kindOf_88 : decode cX10_kindOf 88 = .ok (.iconst 2, 1) := by decide +kernel
theorem dX10_kindOf_89 : decode cX10_kindOf 89 = .ok (.ireturn, 1) := by decide +kernel
theorem dX10_kindOf_90 : decode cX10_kindOf 90 = .ok (.iconst 3, 1) := by decide +kernel
theorem dX10_kindOf_91 : decode cX10_kindOf 91 = .ok (.ireturn, 1) := by decide +kernel
theorem dX10_kindOf_92 : decode cX10_kindOf 92 = .ok (.iconst 4, 1) := by decide +kernel
theorem dX10_kindOf_93 : decode cX10_kindOf 93 = .ok (.ireturn, 1) := by decide +kernel
theorem dX10_kindOf_94 : decode cX10_kindOf 94 = .ok (.iconst 5, 1) := by decide +kernel
theorem dX10_kindOf_95 : decode cX10_kindOf 95 = .ok (.ireturn, 1) := by decide +kernel
theorem dX10_kindOf_96 : decode cX10_kindOf 96 = .ok (.bipush 6, 2) := by decide +kernel
theorem dX10_kindOf_98 : decode cX10_kindOf 98 = .ok (.ireturn, 1) := by decide +kernel
theorem dX10_kindOf_99 : decode cX10_kindOf 99 = .ok (.bipush 7, 2) := by decide +kernel
theorem dX10_kindOf_101 : decode cX10_kindOf 101 = .ok (.ireturn, 1) := by decide +kernel
theorem dX10_kindOf_102 : decode cX10_kindOf 102 = .ok (.bipush 8, 2) := by decide +kernel
theorem dX10_kindOf_104 : decode cX10_kindOf 104 = .ok (.ireturn, 1) := by decide +kernel
theorem dX10_kindOf_105 : decode cX10_kindOf 105 = .ok (.iconst (-1), 1) := by decide +kernel
theorem dX10_kindOf_106 : decode cX10_kindOf 106 = .ok (.ireturn, 1) := by decide +kernel
theorem dX10_item_0 : decode cX10_item 0 = .ok (.aload_n 0, 1) := by decide +kernel
theorem dX10_item_1 : decode cX10_item 1 = .ok (.invokevirtual 125, 3) := by decide +kernel
theorem dX10_item_4 : decode cX10_item 4 = .ok (.istore_n 1, 1) := by decide +kernel
theorem dX10_item_5 : decode cX10_item 5 = .ok (.aload_n 0, 1) := by decide +kernel
theorem dX10_item_6 : decode cX10_item 6 = .ok (.dup, 1) := by decide +kernel
theorem dX10_item_7 : decode cX10_item 7 = .ok (.getfield 122, 3) := by decide +kernel
theorem dX10_item_10 : decode cX10_item 10 = .ok (.iconst 1, 1) := by decide +kernel
theorem dX10_item_11 : decode cX10_item 11 = .ok (.iadd, 1) := by decide +kernel
theorem dX10_item_12 : decode cX10_item 12 = .ok (.putfield 122, 3) := by decide +kernel
theorem dX10_item_15 : decode cX10_item 15 = .ok (.iload_n 1, 1) := by decide +kernel
theorem dX10_item_16 : decode cX10_item 16 = .ok (.invokestatic 132, 3) := by decide +kernel
theorem dX10_item_19 : decode cX10_item 19 = .ok (.ifCond .eq 8, 3) := by decide +kernel
theorem dX10_item_22 : decode cX10_item 22 = .ok (.iload_n 1, 1) := by decide +kernel
theorem dX10_item_23 : decode cX10_item 23 = .ok (.bipush 65, 2) := by decide +kernel
theorem dX10_item_25 : decode cX10_item 25 = .ok (.isub, 1) := by decide +kernel
theorem dX10_item_26 : decode cX10_item 26 = .ok (.ireturn, 1) := by decide +kernel
theorem dX10_item_27 : decode cX10_item 27 = .ok (.aload_n 0, 1) := by decide +kernel
theorem dX10_item_28 : decode cX10_item 28 = .ok (.invokevirtual 125, 3) := by decide +kernel
theorem dX10_item_31 : decode cX10_item 31 = .ok (.invokestatic 136, 3) := by decide +kernel
theorem dX10_item_34 : decode cX10_item 34 = .ok (.istore_n 2, 1) := by decide +kernel
theorem dX10_item_35 : decode cX10_item 35 = .ok (.aload_n 0, 1) := by decide +kernel
theorem dX10_item_36 : decode cX10_item 36 = .ok (.dup, 1) := by decide +kernel
theorem dX10_item_37 : decode cX10_item 37 = .ok (.getfield 122, 3) := by decide +kernel
theorem dX10_item_40 : decode cX10_item 40 = .ok (.iload_n 2, 1) := by decide +kernel
theorem dX10_item_41 : decode cX10_item 41 = .ok (.ifCond .lt 7, 3) := by decide +kernel
theorem dX10_item_44 : decode cX10_item 44 = .ok (.iconst 1, 1) := by decide +kernel
theorem dX10_item_45 : decode cX10_item 45 = .ok (.goto 4, 3) := by decide +kernel
theorem dX10_item_48 : decode cX10_item 48 = .ok (.iconst 0, 1) := by decide +kernel
theorem dX10_item_49 : decode cX10_item 49 = .ok (.iadd, 1) := by decide +kernel
theorem dX10_item_50 : decode cX10_item 50 = .ok (.putfield 122, 3) := by decide +kernel
theorem dX10_item_53 : decode cX10_item 53 = .ok (.bipush 100, 2) := by decide +kernel
theorem dX10_item_55 : decode cX10_item 55 = .ok (.bipush 10, 2) := by decide +kernel
theorem dX10_item_57 : decode cX10_item 57 = .ok (.iload_n 1, 1) := by decide +kernel
theorem dX10_item_58 : decode cX10_item 58 = .ok (.bipush 48, 2) := by decide +kernel
theorem dX10_item_60 : decode cX10_item 60 = .ok (.isub, 1) := by decide +kernel
theorem dX10_item_61 : decode cX10_item 61 = .ok (.imul, 1) := by decide +kernel
theorem dX10_item_62 : decode cX10_item 62 = .ok (.iadd, 1) := by decide +kernel
theorem dX10_item_63 : decode cX10_item 63 = .ok (.iload_n 2, 1) := by decide +kernel
theorem dX10_item_64 : decode cX10_item 64 = .ok (.iadd, 1) := by decide +kernel
theorem dX10_item_65 : decode cX10_item 65 = .ok (.iconst 1, 1) := by decide +kernel
theorem dX10_item_66 : decode cX10_item 66 = .ok (.iadd, 1) := by decide +kernel
theorem dX10_item_67 : decode cX10_item 67 = .ok (.ireturn, 1) := by decide +kernel
theorem dX10_isItem_0 : decode cX10_isItem 0 = .ok (.aload_n 0, 1) := by decide +kernel
theorem dX10_isItem_1 : decode cX10_isItem 1 = .ok (.invokevirtual 125, 3) := by decide +kernel
theorem dX10_isItem_4 : decode cX10_isItem 4 = .ok (.invokestatic 132, 3) := by decide +kernel
theorem dX10_isItem_7 : decode cX10_isItem 7 = .ok (.ifCond .ne 13, 3) := by decide +kernel
theorem dX10_isItem_10 : decode cX10_isItem 10 = .ok (.aload_n 0, 1) := by decide +kernel
theorem dX10_isItem_11 : decode cX10_isItem 11 = .ok (.invokevirtual 125, 3) := by decide +kernel
theorem dX10_isItem_14 : decode cX10_isItem 14 = .ok (.invokestatic 140, 3) := by decide +kernel
theorem dX10_isItem_17 : decode cX10_isItem 17 = .ok (.ifCond .eq 7, 3) := by decide +kernel
theorem dX10_isItem_20 : decode cX10_isItem 20 = .ok (.iconst 1, 1) := by decide +kernel
theorem dX10_isItem_21 : decode cX10_isItem 21 = .ok (.goto 4, 3) := by decide +kernel
theorem dX10_isItem_24 : decode cX10_isItem 24 = .ok (.iconst 0, 1) := by decide +kernel
theorem dX10_isItem_25 : decode cX10_isItem 25 = .ok (.ireturn, 1) := by decide +kernel
theorem dX10_figures_0 : decode cX10_figures 0 = .ok (.iconst 0, 1) := by decide +kernel
theorem dX10_figures_1 : decode cX10_figures 1 = .ok (.istore_n 1, 1) := by decide +kernel
theorem dX10_figures_2 : decode cX10_figures 2 = .ok (.iconst 0, 1) := by decide +kernel
theorem dX10_figures_3 : decode cX10_figures 3 = .ok (.istore_n 2, 1) := by decide +kernel
theorem dX10_figures_4 : decode cX10_figures 4 = .ok (.aload_n 0, 1) := by decide +kernel
theorem dX10_figures_5 : decode cX10_figures 5 = .ok (.getfield 129, 3) := by decide +kernel
theorem dX10_figures_8 : decode cX10_figures 8 = .ok (.ifCond .ge 66, 3) := by decide +kernel
theorem dX10_figures_11 : decode cX10_figures 11 = .ok (.aload_n 0, 1) := by decide +kernel
theorem dX10_figures_12 : decode cX10_figures 12 = .ok (.invokevirtual 125, 3) := by decide +kernel
theorem dX10_figures_15 : decode cX10_figures 15 = .ok (.bipush 48, 2) := by decide +kernel
theorem dX10_figures_17 : decode cX10_figures 17 = .ok (.if_icmp .lt 57, 3) := by decide +kernel
theorem dX10_figures_20 : decode cX10_figures 20 = .ok (.aload_n 0, 1) := by decide +kernel
theorem dX10_figures_21 : decode cX10_figures 21 = .ok (.invokevirtual 125, 3) := by decide +kernel
theorem dX10_figures_24 : decode cX10_figures 24 = .ok (.bipush 57, 2) := by decide +kernel
theorem dX10_figures_26 : decode cX10_figures 26 = .ok (.if_icmp .gt 48, 3) := by decide +kernel
theorem dX10_figures_29 : decode cX10_figures 29 = .ok (.iload_n 2, 1) := by decide +kernel
theorem dX10_figures_30 : decode cX10_figures 30 = .ok (.iconst 3, 1) := by decide +kernel
theorem dX10_figures_31 : decode cX10_figures 31 = .ok (.if_icmp .ne 14, 3) := by decide +kernel
theorem dX10_figures_34 : decode cX10_figures 34 = .ok (.aload_n 0, 1) := by decide +kernel
theorem dX10_figures_35 : decode cX10_figures 35 = .ok (.aload_n 0, 1) := by decide +kernel
theorem dX10_figures_36 : decode cX10_figures 36 = .ok (.getfield 122, 3) := by decide +kernel
theorem dX10_figures_39 : decode cX10_figures 39 = .ok (.invokevirtual 143, 3) := by decide +kernel
theorem dX10_figures_42 : decode cX10_figures 42 = .ok (.goto (-38), 3) := by decide +kernel
theorem dX10_figures_45 : decode cX10_figures 45 = .ok (.bipush 10, 2) := by decide +kernel
end
section
theorem dX10_figures_47 : decode cX10_figures 47 = .ok (.iload_n 1, 1) := by decide +kernel
theorem dX10_figures_48 : decode cX10_figures 48 = .ok (.imul, 1) := by decide +kernel
theorem dX10_figures_49 : decode cX10_figures 49 = .ok (.aload_n 0, 1) := by decide +kernel
theorem dX10_figures_50 : decode cX10_figures 50 = .ok (.invokevirtual 125, 3) := by decide +kernel
theorem dX10_figures_53 : decode cX10_figures 53 = .ok (.iadd, 1) := by decide +kernel
theorem dX10_figures_54 : decode cX10_figures 54 = .ok (.bipush 48, 2) := by decide +kernel
theorem dX10_figures_56 : decode cX10_figures 56 = .ok (.isub, 1) := by decide +kernel
theorem dX10_figures_57 : decode cX10_figures 57 = .ok (.istore_n 1, 1) := by decide +kernel
theorem dX10_figures_58 : decode cX10_figures 58 = .ok (.aload_n 0, 1) := by decide +kernel
theorem dX10_figures_59 : decode cX10_figures 59 = .ok (.dup, 1) := by decide +kernel
theorem dX10_figures_60 : decode cX10_figures 60 = .ok (.getfield 122, 3) := by decide +kernel
theorem dX10_figures_63 : decode cX10_figures 63 = .ok (.iconst 1, 1) := by decide +kernel
theorem dX10_figures_64 : decode cX10_figures 64 = .ok (.iadd, 1) := by decide +kernel
theorem dX10_figures_65 : decode cX10_figures 65 = .ok (.putfield 122, 3) := by decide +kernel
theorem dX10_figures_68 : decode cX10_figures 68 = .ok (.iinc 2 1, 3) := by decide +kernel
theorem dX10_figures_71 : decode cX10_figures 71 = .ok (.goto (-67), 3) := by decide +kernel
theorem dX10_figures_74 : decode cX10_figures 74 = .ok (.iload_n 2, 1) := by decide +kernel
theorem dX10_figures_75 : decode cX10_figures 75 = .ok (.ifCond .ne 11, 3) := by decide +kernel
theorem dX10_figures_78 : decode cX10_figures 78 = .ok (.aload_n 0, 1) := by decide +kernel
theorem dX10_figures_79 : decode cX10_figures 79 = .ok (.aload_n 0, 1) := by decide +kernel
theorem dX10_figures_80 : decode cX10_figures 80 = .ok (.getfield 122, 3) := by decide +kernel
theorem dX10_figures_83 : decode cX10_figures 83 = .ok (.invokevirtual 143, 3) := by decide +kernel
theorem dX10_figures_86 : decode cX10_figures 86 = .ok (.iload_n 1, 1) := by decide +kernel
theorem dX10_figures_87 : decode cX10_figures 87 = .ok (.ireturn, 1) := by decide +kernel
theorem dX10_rule_0 : decode cX10_rule 0 = .ok (.aload_n 0, 1) := by decide +kernel
theorem dX10_rule_1 : decode cX10_rule 1 = .ok (.getfield 147, 3) := by decide +kernel
theorem dX10_rule_4 : decode cX10_rule 4 = .ok (.istore_n 1, 1) := by decide +kernel
theorem dX10_rule_5 : decode cX10_rule 5 = .ok (.aload_n 0, 1) := by decide +kernel
theorem dX10_rule_6 : decode cX10_rule 6 = .ok (.invokevirtual 125, 3) := by decide +kernel
theorem dX10_rule_9 : decode cX10_rule 9 = .ok (.invokestatic 132, 3) := by decide +kernel
theorem dX10_rule_12 : decode cX10_rule 12 = .ok (.ifCond .ne 12, 3) := by decide +kernel
theorem dX10_rule_15 : decode cX10_rule 15 = .ok (.aload_n 0, 1) := by decide +kernel
theorem dX10_rule_16 : decode cX10_rule 16 = .ok (.aload_n 0, 1) := by decide +kernel
theorem dX10_rule_17 : decode cX10_rule 17 = .ok (.getfield 122, 3) := by decide +kernel
theorem dX10_rule_20 : decode cX10_rule 20 = .ok (.invokevirtual 143, 3) := by decide +kernel
theorem dX10_rule_23 : decode cX10_rule 23 = .ok (.return_, 1) := by decide +kernel
theorem dX10_rule_24 : decode cX10_rule 24 = .ok (.aload_n 0, 1) := by decide +kernel
theorem dX10_rule_25 : decode cX10_rule 25 = .ok (.getfield 49, 3) := by decide +kernel
theorem dX10_rule_28 : decode cX10_rule 28 = .ok (.iload_n 1, 1) := by decide +kernel
theorem dX10_rule_29 : decode cX10_rule 29 = .ok (.aload_n 0, 1) := by decide +kernel
theorem dX10_rule_30 : decode cX10_rule 30 = .ok (.getfield 122, 3) := by decide +kernel
theorem dX10_rule_33 : decode cX10_rule 33 = .ok (.iastore, 1) := by decide +kernel
theorem dX10_rule_34 : decode cX10_rule 34 = .ok (.aload_n 0, 1) := by decide +kernel
theorem dX10_rule_35 : decode cX10_rule 35 = .ok (.getfield 37, 3) := by decide +kernel
theorem dX10_rule_38 : decode cX10_rule 38 = .ok (.iload_n 1, 1) := by decide +kernel
theorem dX10_rule_39 : decode cX10_rule 39 = .ok (.aload_n 0, 1) := by decide +kernel
theorem dX10_rule_40 : decode cX10_rule 40 = .ok (.invokevirtual 125, 3) := by decide +kernel
theorem dX10_rule_43 : decode cX10_rule 43 = .ok (.bipush 65, 2) := by decide +kernel
theorem dX10_rule_45 : decode cX10_rule 45 = .ok (.isub, 1) := by decide +kernel
theorem dX10_rule_46 : decode cX10_rule 46 = .ok (.iastore, 1) := by decide +kernel
theorem dX10_rule_47 : decode cX10_rule 47 = .ok (.aload_n 0, 1) := by decide +kernel
theorem dX10_rule_48 : decode cX10_rule 48 = .ok (.getfield 43, 3) := by decide +kernel
theorem dX10_rule_51 : decode cX10_rule 51 = .ok (.iload_n 1, 1) := by decide +kernel
theorem dX10_rule_52 : decode cX10_rule 52 = .ok (.iconst (-1), 1) := by decide +kernel
theorem dX10_rule_53 : decode cX10_rule 53 = .ok (.iastore, 1) := by decide +kernel
theorem dX10_rule_54 : decode cX10_rule 54 = .ok (.aload_n 0, 1) := by decide +kernel
theorem dX10_rule_55 : decode cX10_rule 55 = .ok (.getfield 46, 3) := by decide +kernel
theorem dX10_rule_58 : decode cX10_rule 58 = .ok (.iload_n 1, 1) := by decide +kernel
theorem dX10_rule_59 : decode cX10_rule 59 = .ok (.iconst 0, 1) := by decide +kernel
theorem dX10_rule_60 : decode cX10_rule 60 = .ok (.iastore, 1) := by decide +kernel
theorem dX10_rule_61 : decode cX10_rule 61 = .ok (.aload_n 0, 1) := by decide +kernel
theorem dX10_rule_62 : decode cX10_rule 62 = .ok (.dup, 1) := by decide +kernel
theorem dX10_rule_63 : decode cX10_rule 63 = .ok (.getfield 122, 3) := by decide +kernel
theorem dX10_rule_66 : decode cX10_rule 66 = .ok (.iconst 1, 1) := by decide +kernel
theorem dX10_rule_67 : decode cX10_rule 67 = .ok (.iadd, 1) := by decide +kernel
theorem dX10_rule_68 : decode cX10_rule 68 = .ok (.putfield 122, 3) := by decide +kernel
theorem dX10_rule_71 : decode cX10_rule 71 = .ok (.aload_n 0, 1) := by decide +kernel
theorem dX10_rule_72 : decode cX10_rule 72 = .ok (.invokevirtual 150, 3) := by decide +kernel
theorem dX10_rule_75 : decode cX10_rule 75 = .ok (.aload_n 0, 1) := by decide +kernel
theorem dX10_rule_76 : decode cX10_rule 76 = .ok (.invokevirtual 125, 3) := by decide +kernel
theorem dX10_rule_79 : decode cX10_rule 79 = .ok (.bipush 61, 2) := by decide +kernel
theorem dX10_rule_81 : decode cX10_rule 81 = .ok (.if_icmp .eq 12, 3) := by decide +kernel
theorem dX10_rule_84 : decode cX10_rule 84 = .ok (.aload_n 0, 1) := by decide +kernel
theorem dX10_rule_85 : decode cX10_rule 85 = .ok (.aload_n 0, 1) := by decide +kernel
theorem dX10_rule_86 : decode cX10_rule 86 = .ok (.getfield 122, 3) := by decide +kernel
theorem dX10_rule_89 : decode cX10_rule 89 = .ok (.invokevirtual 143, 3) := by decide +kernel
theorem dX10_rule_92 : decode cX10_rule 92 = .ok (.return_, 1) := by decide +kernel
theorem dX10_rule_93 : decode cX10_rule 93 = .ok (.aload_n 0, 1) := by decide +kernel
theorem dX10_rule_94 : decode cX10_rule 94 = .ok (.dup, 1) := by decide +kernel
theorem dX10_rule_95 : decode cX10_rule 95 = .ok (.getfield 122, 3) := by decide +kernel
theorem dX10_rule_98 : decode cX10_rule 98 = .ok (.iconst 1, 1) := by decide +kernel
theorem dX10_rule_99 : decode cX10_rule 99 = .ok (.iadd, 1) := by decide +kernel
theorem dX10_rule_100 : decode cX10_rule 100 = .ok (.putfield 122, 3) := by decide +kernel
theorem dX10_rule_103 : decode cX10_rule 103 = .ok (.aload_n 0, 1) := by decide +kernel
theorem dX10_rule_104 : decode cX10_rule 104 = .ok (.invokevirtual 150, 3) := by decide +kernel
theorem dX10_rule_107 : decode cX10_rule 107 = .ok (.aload_n 0, 1) := by decide +kernel
theorem dX10_rule_108 : decode cX10_rule 108 = .ok (.invokevirtual 153, 3) := by decide +kernel
theorem dX10_rule_111 : decode cX10_rule 111 = .ok (.ifCond .ne 12, 3) := by decide +kernel
theorem dX10_rule_114 : decode cX10_rule 114 = .ok (.aload_n 0, 1) := by decide +kernel
theorem dX10_rule_115 : decode cX10_rule 115 = .ok (.aload_n 0, 1) := by decide +kernel
theorem dX10_rule_116 : decode cX10_rule 116 = .ok (.getfield 122, 3) := by decide +kernel
theorem dX10_rule_119 : decode cX10_rule 119 = .ok (.invokevirtual 143, 3) := by decide +kernel
theorem dX10_rule_122 : decode cX10_rule 122 = .ok (.return_, 1) := by decide +kernel
theorem dX10_rule_123 : decode cX10_rule 123 = .ok (.aload_n 0, 1) := by decide +kernel
theorem dX10_rule_124 : decode cX10_rule 124 = .ok (.getfield 40, 3) := by decide +kernel
theorem dX10_rule_127 : decode cX10_rule 127 = .ok (.iload_n 1, 1) := by decide +kernel
theorem dX10_rule_128 : decode cX10_rule 128 = .ok (.aload_n 0, 1) := by decide +kernel
theorem dX10_rule_129 : decode cX10_rule 129 = .ok (.invokevirtual 157, 3) := by decide +kernel
theorem dX10_rule_132 : decode cX10_rule 132 = .ok (.iastore, 1) := by decide +kernel
theorem dX10_rule_133 : decode cX10_rule 133 = .ok (.aload_n 0, 1) := by decide +kernel
theorem dX10_rule_134 : decode cX10_rule 134 = .ok (.invokevirtual 150, 3) := by decide +kernel
theorem dX10_rule_137 : decode cX10_rule 137 = .ok (.aload_n 0, 1) := by decide +kernel
theorem dX10_rule_138 : decode cX10_rule 138 = .ok (.invokevirtual 153, 3) := by decide +kernel
theorem dX10_rule_141 : decode cX10_rule 141 = .ok (.ifCond .eq 17, 3) := by decide +kernel
theorem dX10_rule_144 : decode cX10_rule 144 = .ok (.aload_n 0, 1) := by decide +kernel
theorem dX10_rule_145 : decode cX10_rule 145 = .ok (.getfield 43, 3) := by decide +kernel
theorem dX10_rule_148 : decode cX10_rule 148 = .ok (.iload_n 1, 1) := by decide +kernel
theorem dX10_rule_149 : decode cX10_rule 149 = .ok (.aload_n 0, 1) := by decide +kernel
theorem dX10_rule_150 : decode cX10_rule 150 = .ok (.invokevirtual 157, 3) := by decide +kernel
theorem dX10_rule_153 : decode cX10_rule 153 = .ok (.iastore, 1) := by decide +kernel
theorem dX10_rule_154 : decode cX10_rule 154 = .ok (.aload_n 0, 1) := by decide +kernel
theorem dX10_rule_155 : decode cX10_rule 155 = .ok (.invokevirtual 150, 3) := by decide +kernel
theorem dX10_rule_158 : decode cX10_rule 158 = .ok (.aload_n 0, 1) := by decide +kernel
theorem dX10_rule_159 : decode cX10_rule 159 = .ok (.invokevirtual 125, 3) := by decide +kernel
theorem dX10_rule_162 : decode cX10_rule 162 = .ok (.bipush 58, 2) := by decide +kernel
theorem dX10_rule_164 : decode cX10_rule 164 = .ok (.if_icmp .ne 31, 3) := by decide +kernel
theorem dX10_rule_167 : decode cX10_rule 167 = .ok (.aload_n 0, 1) := by decide +kernel
theorem dX10_rule_168 : decode cX10_rule 168 = .ok (.dup, 1) := by decide +kernel
theorem dX10_rule_169 : decode cX10_rule 169 = .ok (.getfield 122, 3) := by decide +kernel
theorem dX10_rule_172 : decode cX10_rule 172 = .ok (.iconst 1, 1) := by decide +kernel
theorem dX10_rule_173 : decode cX10_rule 173 = .ok (.iadd, 1) := by decide +kernel
theorem dX10_rule_174 : decode cX10_rule 174 = .ok (.putfield 122, 3) := by decide +kernel
theorem dX10_rule_177 : decode cX10_rule 177 = .ok (.aload_n 0, 1) := by decide +kernel
theorem dX10_rule_178 : decode cX10_rule 178 = .ok (.invokevirtual 150, 3) := by decide +kernel
theorem dX10_rule_181 : decode cX10_rule 181 = .ok (.aload_n 0, 1) := by decide +kernel
theorem dX10_rule_182 : decode cX10_rule 182 = .ok (.getfield 46, 3) := by decide +kernel
theorem dX10_rule_185 : decode cX10_rule 185 = .ok (.iload_n 1, 1) := by decide +kernel
theorem dX10_rule_186 : decode cX10_rule 186 = .ok (.aload_n 0, 1) := by decide +kernel
theorem dX10_rule_187 : decode cX10_rule 187 = .ok (.invokevirtual 160, 3) := by decide +kernel
theorem dX10_rule_190 : decode cX10_rule 190 = .ok (.iastore, 1) := by decide +kernel
theorem dX10_rule_191 : decode cX10_rule 191 = .ok (.aload_n 0, 1) := by decide +kernel
theorem dX10_rule_192 : decode cX10_rule 192 = .ok (.invokevirtual 150, 3) := by decide +kernel
theorem dX10_rule_195 : decode cX10_rule 195 = .ok (.aload_n 0, 1) := by decide +kernel
theorem dX10_rule_196 : decode cX10_rule 196 = .ok (.getfield 129, 3) := by decide +kernel
theorem dX10_rule_199 : decode cX10_rule 199 = .ok (.ifCond .ge 20, 3) := by decide +kernel
theorem dX10_rule_202 : decode cX10_rule 202 = .ok (.aload_n 0, 1) := by decide +kernel
theorem dX10_rule_203 : decode cX10_rule 203 = .ok (.invokevirtual 125, 3) := by decide +kernel
theorem dX10_rule_206 : decode cX10_rule 206 = .ok (.bipush 59, 2) := by decide +kernel
theorem dX10_rule_208 : decode cX10_rule 208 = .ok (.if_icmp .eq 11, 3) := by decide +kernel
theorem dX10_rule_211 : decode cX10_rule 211 = .ok (.aload_n 0, 1) := by decide +kernel
theorem dX10_rule_212 : decode cX10_rule 212 = .ok (.aload_n 0, 1) := by decide +kernel
theorem dX10_rule_213 : decode cX10_rule 213 = .ok (.getfield 122, 3) := by decide +kernel
theorem dX10_rule_216 : decode cX10_rule 216 = .ok (.invokevirtual 143, 3) := by decide +kernel
theorem dX10_rule_219 : decode cX10_rule 219 = .ok (.aload_n 0, 1) := by decide +kernel
theorem dX10_rule_220 : decode cX10_rule 220 = .ok (.dup, 1) := by decide +kernel
theorem dX10_rule_221 : decode cX10_rule 221 = .ok (.getfield 122, 3) := by decide +kernel
theorem dX10_rule_224 : decode cX10_rule 224 = .ok (.iconst 1, 1) := by decide +kernel
theorem dX10_rule_225 : decode cX10_rule 225 = .ok (.iadd, 1) := by decide +kernel
theorem dX10_rule_226 : decode cX10_rule 226 = .ok (.putfield 122, 3) := by decide +kernel
theorem dX10_rule_229 : decode cX10_rule 229 = .ok (.aload_n 0, 1) := by decide +kernel
theorem dX10_rule_230 : decode cX10_rule 230 = .ok (.dup, 1) := by decide +kernel
theorem dX10_rule_231 : decode cX10_rule 231 = .ok (.getfield 147, 3) := by decide +kernel
theorem dX10_rule_234 : decode cX10_rule 234 = .ok (.iconst 1, 1) := by decide +kernel
theorem dX10_rule_235 : decode cX10_rule 235 = .ok (.iadd, 1) := by decide +kernel
theorem dX10_rule_236 : decode cX10_rule 236 = .ok (.putfield 147, 3) := by decide +kernel
theorem dX10_rule_239 : decode cX10_rule 239 = .ok (.return_, 1) := by decide +kernel
theorem dX10_isUnary_0 : decode cX10_isUnary 0 = .ok (.aload_n 0, 1) := by decide +kernel
theorem dX10_isUnary_1 : decode cX10_isUnary 1 = .ok (.getfield 43, 3) := by decide +kernel
theorem dX10_isUnary_4 : decode cX10_isUnary 4 = .ok (.iload_n 1, 1) := by decide +kernel
theorem dX10_isUnary_5 : decode cX10_isUnary 5 = .ok (.iaload, 1) := by decide +kernel
theorem dX10_isUnary_6 : decode cX10_isUnary 6 = .ok (.iconst (-1), 1) := by decide +kernel
theorem dX10_isUnary_7 : decode cX10_isUnary 7 = .ok (.if_icmp .ne 18, 3) := by decide +kernel
theorem dX10_isUnary_10 : decode cX10_isUnary 10 = .ok (.aload_n 0, 1) := by decide +kernel
theorem dX10_isUnary_11 : decode cX10_isUnary 11 = .ok (.getfield 40, 3) := by decide +kernel
theorem dX10_isUnary_14 : decode cX10_isUnary 14 = .ok (.iload_n 1, 1) := by decide +kernel
theorem dX10_isUnary_15 : decode cX10_isUnary 15 = .ok (.iaload, 1) := by decide +kernel
theorem dX10_isUnary_16 : decode cX10_isUnary 16 = .ok (.bipush 100, 2) := by decide +kernel
theorem dX10_isUnary_18 : decode cX10_isUnary 18 = .ok (.if_icmp .ge 7, 3) := by decide +kernel
theorem dX10_isUnary_21 : decode cX10_isUnary 21 = .ok (.iconst 1, 1) := by decide +kernel
theorem dX10_isUnary_22 : decode cX10_isUnary 22 = .ok (.goto 4, 3) := by decide +kernel
theorem dX10_isUnary_25 : decode cX10_isUnary 25 = .ok (.iconst 0, 1) := by decide +kernel
theorem dX10_isUnary_26 : decode cX10_isUnary 26 = .ok (.ireturn, 1) := by decide +kernel
theorem dX10_findRings_0 : decode cX10_findRings 0 = .ok (.iconst 0, 1) := by decide +kernel
theorem dX10_findRings_1 : decode cX10_findRings 1 = .ok (.istore_n 1, 1) := by decide +kernel
theorem dX10_findRings_2 : decode cX10_findRings 2 = .ok (.iload_n 1, 1) := by decide +kernel
theorem dX10_findRings_3 : decode cX10_findRings 3 = .ok (.sipush 676, 3) := by decide +kernel
theorem dX10_findRings_6 : decode cX10_findRings 6 = .ok (.if_icmp .ge 16, 3) := by decide +kernel
theorem dX10_findRings_9 : decode cX10_findRings 9 = .ok (.aload_n 0, 1) := by decide +kernel
theorem dX10_findRings_10 : decode cX10_findRings 10 = .ok (.getfield 52, 3) := by decide +kernel
theorem dX10_findRings_13 : decode cX10_findRings 13 = .ok (.iload_n 1, 1) := by decide +kernel
theorem dX10_findRings_14 : decode cX10_findRings 14 = .ok (.iconst 0, 1) := by decide +kernel
theorem dX10_findRings_15 : decode cX10_findRings 15 = .ok (.bastore, 1) := by decide +kernel
theorem dX10_findRings_16 : decode cX10_findRings 16 = .ok (.iinc 1 1, 3) := by decide +kernel
theorem dX10_findRings_19 : decode cX10_findRings 19 = .ok (.goto (-17), 3) := by decide +kernel
theorem dX10_findRings_22 : decode cX10_findRings 22 = .ok (.iconst 0, 1) := by decide +kernel
theorem dX10_findRings_23 : decode cX10_findRings 23 = .ok (.istore_n 1, 1) := by decide +kernel
theorem dX10_findRings_24 : decode cX10_findRings 24 = .ok (.iload_n 1, 1) := by decide +kernel
theorem dX10_findRings_25 : decode cX10_findRings 25 = .ok (.aload_n 0, 1) := by decide +kernel
theorem dX10_findRings_26 : decode cX10_findRings 26 = .ok (.getfield 147, 3) := by decide +kernel
theorem dX10_findRings_29 : decode cX10_findRings 29 = .ok (.if_icmp .ge 39, 3) := by decide +kernel
theorem dX10_findRings_32 : decode cX10_findRings 32 = .ok (.aload_n 0, 1) := by decide +kernel
theorem dX10_findRings_33 : decode cX10_findRings 33 = .ok (.iload_n 1, 1) := by decide +kernel
theorem dX10_findRings_34 : decode cX10_findRings 34 = .ok (.invokevirtual 163, 3) := by decide +kernel
theorem dX10_findRings_37 : decode cX10_findRings 37 = .ok (.ifCond .eq 25, 3) := by decide +kernel
theorem dX10_findRings_40 : decode cX10_findRings 40 = .ok (.aload_n 0, 1) := by decide +kernel
theorem dX10_findRings_41 : decode cX10_findRings 41 = .ok (.getfield 52, 3) := by decide +kernel
theorem dX10_findRings_44 : decode cX10_findRings 44 = .ok (.bipush 26, 2) := by decide +kernel
theorem dX10_findRings_46 : decode cX10_findRings 46 = .ok (.aload_n 0, 1) := by decide +kernel
theorem dX10_findRings_47 : decode cX10_findRings 47 = .ok (.getfield 37, 3) := by decide +kernel
theorem dX10_findRings_50 : decode cX10_findRings 50 = .ok (.iload_n 1, 1) := by decide +kernel
theorem dX10_findRings_51 : decode cX10_findRings 51 = .ok (.iaload, 1) := by decide +kernel
theorem dX10_findRings_52 : decode cX10_findRings 52 = .ok (.imul, 1) := by decide +kernel
theorem dX10_findRings_53 : decode cX10_findRings 53 = .ok (.aload_n 0, 1) := by decide +kernel
theorem dX10_findRings_54 : decode cX10_findRings 54 = .ok (.getfield 40, 3) := by decide +kernel
theorem dX10_findRings_57 : decode cX10_findRings 57 = .ok (.iload_n 1, 1) := by decide +kernel
theorem dX10_findRings_58 : decode cX10_findRings 58 = .ok (.iaload, 1) := by decide +kernel
theorem dX10_findRings_59 : decode cX10_findRings 59 = .ok (.iadd, 1) := by decide +kernel
theorem dX10_findRings_60 : decode cX10_findRings 60 = .ok (.iconst 1, 1) := by decide +kernel
theorem dX10_findRings_61 : decode cX10_findRings 61 = .ok (.bastore, 1) := by decide +kernel
theorem dX10_findRings_62 : decode cX10_findRings 62 = .ok (.iinc 1 1, 3) := by decide +kernel
theorem dX10_findRings_65 : decode cX10_findRings 65 = .ok (.goto (-41), 3) := by decide +kernel
theorem dX10_findRings_68 : decode cX10_findRings 68 = .ok (.iconst 0, 1) := by decide +kernel
theorem dX10_findRings_69 : decode cX10_findRings 69 = .ok (.istore_n 1, 1) := by decide +kernel
theorem dX10_findRings_70 : decode cX10_findRings 70 = .ok (.iload_n 1, 1) := by decide +kernel
theorem dX10_findRings_71 : decode cX10_findRings 71 = .ok (.bipush 26, 2) := by decide +kernel
theorem dX10_findRings_73 : decode cX10_findRings 73 = .ok (.if_icmp .ge 84, 3) := by decide +kernel
theorem dX10_findRings_76 : decode cX10_findRings 76 = .ok (.iconst 0, 1) := by decide +kernel
theorem dX10_findRings_77 : decode cX10_findRings 77 = .ok (.istore_n 2, 1) := by decide +kernel
theorem dX10_findRings_78 : decode cX10_findRings 78 = .ok (.iload_n 2, 1) := by decide +kernel
theorem dX10_findRings_79 : decode cX10_findRings 79 = .ok (.bipush 26, 2) := by decide +kernel
theorem dX10_findRings_81 : decode cX10_findRings 81 = .ok (.if_icmp .ge 70, 3) := by decide +kernel
theorem dX10_findRings_84 : decode cX10_findRings 84 = .ok (.iconst 0, 1) := by decide +kernel
theorem dX10_findRings_85 : decode cX10_findRings 85 = .ok (.istore_n 3, 1) := by decide +kernel
theorem dX10_findRings_86 : decode cX10_findRings 86 = .ok (.iload_n 3, 1) := by decide +kernel
theorem dX10_findRings_87 : decode cX10_findRings 87 = .ok (.bipush 26, 2) := by decide +kernel
theorem dX10_findRings_89 : decode cX10_findRings 89 = .ok (.if_icmp .ge 56, 3) := by decide +kernel
theorem dX10_findRings_92 : decode cX10_findRings 92 = .ok (.aload_n 0, 1) := by decide +kernel
theorem dX10_findRings_93 : decode cX10_findRings 93 = .ok (.getfield 52, 3) := by decide +kernel
theorem dX10_findRings_96 : decode cX10_findRings 96 = .ok (.bipush 26, 2) := by decide +kernel
theorem dX10_findRings_98 : decode cX10_findRings 98 = .ok (.iload_n 2, 1) := by decide +kernel
theorem dX10_findRings_99 : decode cX10_findRings 99 = .ok (.imul, 1) := by decide +kernel
theorem dX10_findRings_100 : decode cX10_findRings 100 = .ok (.iload_n 3, 1) := by decide +kernel
theorem dX10_findRings_101 : decode cX10_findRings 101 = .ok (.iadd, 1) := by decide +kernel
theorem dX10_findRings_102 : decode cX10_findRings 102 = .ok (.dup2, 1) := by decide +kernel
theorem dX10_findRings_103 : decode cX10_findRings 103 = .ok (.baload, 1) := by decide +kernel
theorem dX10_findRings_104 : decode cX10_findRings 104 = .ok (.aload_n 0, 1) := by decide +kernel
theorem dX10_findRings_105 : decode cX10_findRings 105 = .ok (.getfield 52, 3) := by decide +kernel
theorem dX10_findRings_108 : decode cX10_findRings 108 = .ok (.bipush 26, 2) := by decide +kernel
theorem dX10_findRings_110 : decode cX10_findRings 110 = .ok (.iload_n 2, 1) := by decide +kernel
theorem dX10_findRings_111 : decode cX10_findRings 111 = .ok (.imul, 1) := by decide +kernel
theorem dX10_findRings_112 : decode cX10_findRings 112 = .ok (.iload_n 1, 1) := by decide +kernel
theorem dX10_findRings_113 : decode cX10_findRings 113 = .ok (.iadd, 1) := by decide +kernel
theorem dX10_findRings_114 : decode cX10_findRings 114 = .ok (.baload, 1) := by decide +kernel
theorem dX10_findRings_115 : decode cX10_findRings 115 = .ok (.ifCond .eq 21, 3) := by decide +kernel
theorem dX10_findRings_118 : decode cX10_findRings 118 = .ok (.aload_n 0, 1) := by decide +kernel
theorem dX10_findRings_119 : decode cX10_findRings 119 = .ok (.getfield 52, 3) := by decide +kernel
theorem dX10_findRings_122 : decode cX10_findRings 122 = .ok (.bipush 26, 2) := by decide +kernel
theorem dX10_findRings_124 : decode cX10_findRings 124 = .ok (.iload_n 1, 1) := by decide +kernel
theorem dX10_findRings_125 : decode cX10_findRings 125 = .ok (.imul, 1) := by decide +kernel
theorem dX10_findRings_126 : decode cX10_findRings 126 = .ok (.iload_n 3, 1) := by decide +kernel
theorem dX10_findRings_127 : decode cX10_findRings 127 = .ok (.iadd, 1) := by decide +kernel
theorem dX10_findRings_128 : decode cX10_findRings 128 = .ok (.baload, 1) := by decide +kernel
theorem dX10_findRings_129 : decode cX10_findRings 129 = .ok (.ifCond .eq 7, 3) := by decide +kernel
theorem dX10_findRings_132 : decode cX10_findRings 132 = .ok (.iconst 1, 1) := by decide +kernel
theorem dX10_findRings_133 : decode cX10_findRings 133 = .ok (.goto 4, 3) := by decide +kernel
theorem dX10_findRings_136 : decode cX10_findRings 136 = .ok (.iconst 0, 1) := by decide +kernel
theorem dX10_findRings_137 : decode cX10_findRings 137 = .ok (.ior, 1) := by decide +kernel
theorem dX10_findRings_138 : decode cX10_findRings 138 = .ok (.bastore, 1) := by decide +kernel
theorem dX10_findRings_139 : decode cX10_findRings 139 = .ok (.iinc 3 1, 3) := by decide +kernel
theorem dX10_findRings_142 : decode cX10_findRings 142 = .ok (.goto (-56), 3) := by decide +kernel
theorem dX10_findRings_145 : decode cX10_findRings 145 = .ok (.iinc 2 1, 3) := by decide +kernel
theorem dX10_findRings_148 : decode cX10_findRings 148 = .ok (.goto (-70), 3) := by decide +kernel
theorem dX10_findRings_151 : decode cX10_findRings 151 = .ok (.iinc 1 1, 3) := by decide +kernel
theorem dX10_findRings_154 : decode cX10_findRings 154 = .ok (.goto (-84), 3) := by decide +kernel
theorem dX10_findRings_157 : decode cX10_findRings 157 = .ok (.iconst 0, 1) := by decide +kernel
theorem dX10_findRings_158 : decode cX10_findRings 158 = .ok (.istore_n 1, 1) := by decide +kernel
theorem dX10_findRings_159 : decode cX10_findRings 159 = .ok (.iload_n 1, 1) := by decide +kernel
theorem dX10_findRings_160 : decode cX10_findRings 160 = .ok (.aload_n 0, 1) := by decide +kernel
theorem dX10_findRings_161 : decode cX10_findRings 161 = .ok (.getfield 147, 3) := by decide +kernel
theorem dX10_findRings_164 : decode cX10_findRings 164 = .ok (.if_icmp .ge 66, 3) := by decide +kernel
theorem dX10_findRings_167 : decode cX10_findRings 167 = .ok (.aload_n 0, 1) := by decide +kernel
theorem dX10_findRings_168 : decode cX10_findRings 168 = .ok (.iload_n 1, 1) := by decide +kernel
theorem dX10_findRings_169 : decode cX10_findRings 169 = .ok (.invokevirtual 163, 3) := by decide +kernel
theorem dX10_findRings_172 : decode cX10_findRings 172 = .ok (.ifCond .eq 52, 3) := by decide +kernel
theorem dX10_findRings_175 : decode cX10_findRings 175 = .ok (.aload_n 0, 1) := by decide +kernel
theorem dX10_findRings_176 : decode cX10_findRings 176 = .ok (.getfield 40, 3) := by decide +kernel
theorem dX10_findRings_179 : decode cX10_findRings 179 = .ok (.iload_n 1, 1) := by decide +kernel
theorem dX10_findRings_180 : decode cX10_findRings 180 = .ok (.iaload, 1) := by decide +kernel
theorem dX10_findRings_181 : decode cX10_findRings 181 = .ok (.aload_n 0, 1) := by decide +kernel
theorem dX10_findRings_182 : decode cX10_findRings 182 = .ok (.getfield 37, 3) := by decide +kernel
theorem dX10_findRings_185 : decode cX10_findRings 185 = .ok (.iload_n 1, 1) := by decide +kernel
theorem dX10_findRings_186 : decode cX10_findRings 186 = .ok (.iaload, 1) := by decide +kernel
theorem dX10_findRings_187 : decode cX10_findRings 187 = .ok (.if_icmp .eq 27, 3) := by decide +kernel
theorem dX10_findRings_190 : decode cX10_findRings 190 = .ok (.aload_n 0, 1) := by decide +kernel
theorem dX10_findRings_191 : decode cX10_findRings 191 = .ok (.getfield 52, 3) := by decide +kernel
theorem dX10_findRings_194 : decode cX10_findRings 194 = .ok (.bipush 26, 2) := by decide +kernel
theorem dX10_findRings_196 : decode cX10_findRings 196 = .ok (.aload_n 0, 1) := by decide +kernel
theorem dX10_findRings_197 : decode cX10_findRings 197 = .ok (.getfield 40, 3) := by decide +kernel
theorem dX10_findRings_200 : decode cX10_findRings 200 = .ok (.iload_n 1, 1) := by decide +kernel
theorem dX10_findRings_201 : decode cX10_findRings 201 = .ok (.iaload, 1) := by decide +kernel
theorem dX10_findRings_202 : decode cX10_findRings 202 = .ok (.imul, 1) := by decide +kernel
theorem dX10_findRings_203 : decode cX10_findRings 203 = .ok (.aload_n 0, 1) := by decide +kernel
theorem dX10_findRings_204 : decode cX10_findRings 204 = .ok (.getfield 37, 3) := by decide +kernel
theorem dX10_findRings_207 : decode cX10_findRings 207 = .ok (.iload_n 1, 1) := by decide +kernel
theorem dX10_findRings_208 : decode cX10_findRings 208 = .ok (.iaload, 1) := by decide +kernel
theorem dX10_findRings_209 : decode cX10_findRings 209 = .ok (.iadd, 1) := by decide +kernel
theorem dX10_findRings_210 : decode cX10_findRings 210 = .ok (.baload, 1) := by decide +kernel
theorem dX10_findRings_211 : decode cX10_findRings 211 = .ok (.ifCond .eq 13, 3) := by decide +kernel
theorem dX10_findRings_214 : decode cX10_findRings 214 = .ok (.aload_n 0, 1) := by decide +kernel
theorem dX10_findRings_215 : decode cX10_findRings 215 = .ok (.aload_n 0, 1) := by decide +kernel
theorem dX10_findRings_216 : decode cX10_findRings 216 = .ok (.getfield 49, 3) := by decide +kernel
theorem dX10_findRings_219 : decode cX10_findRings 219 = .ok (.iload_n 1, 1) := by decide +kernel
theorem dX10_findRings_220 : decode cX10_findRings 220 = .ok (.iaload, 1) := by decide +kernel
theorem dX10_findRings_221 : decode cX10_findRings 221 = .ok (.invokevirtual 143, 3) := by decide +kernel
theorem dX10_findRings_224 : decode cX10_findRings 224 = .ok (.iinc 1 1, 3) := by decide +kernel
theorem dX10_findRings_227 : decode cX10_findRings 227 = .ok (.goto (-68), 3) := by decide +kernel
theorem dX10_findRings_230 : decode cX10_findRings 230 = .ok (.return_, 1) := by decide +kernel
theorem dX10_grammar_0 : decode cX10_grammar 0 = .ok (.aload_n 0, 1) := by decide +kernel
theorem dX10_grammar_1 : decode cX10_grammar 1 = .ok (.iconst 0, 1) := by decide +kernel
theorem dX10_grammar_2 : decode cX10_grammar 2 = .ok (.putfield 106, 3) := by decide +kernel
theorem dX10_grammar_5 : decode cX10_grammar 5 = .ok (.aload_n 0, 1) := by decide +kernel
theorem dX10_grammar_6 : decode cX10_grammar 6 = .ok (.iconst 0, 1) := by decide +kernel
theorem dX10_grammar_7 : decode cX10_grammar 7 = .ok (.putfield 122, 3) := by decide +kernel
theorem dX10_grammar_10 : decode cX10_grammar 10 = .ok (.aload_n 0, 1) := by decide +kernel
theorem dX10_grammar_11 : decode cX10_grammar 11 = .ok (.iconst (-1), 1) := by decide +kernel
theorem dX10_grammar_12 : decode cX10_grammar 12 = .ok (.putfield 129, 3) := by decide +kernel
theorem dX10_grammar_15 : decode cX10_grammar 15 = .ok (.aload_n 0, 1) := by decide +kernel
theorem dX10_grammar_16 : decode cX10_grammar 16 = .ok (.iconst 0, 1) := by decide +kernel
theorem dX10_grammar_17 : decode cX10_grammar 17 = .ok (.putfield 147, 3) := by decide +kernel
theorem dX10_grammar_20 : decode cX10_grammar 20 = .ok (.aload_n 0, 1) := by decide +kernel
theorem dX10_grammar_21 : decode cX10_grammar 21 = .ok (.invokevirtual 150, 3) := by decide +kernel
theorem dX10_grammar_24 : decode cX10_grammar 24 = .ok (.aload_n 0, 1) := by decide +kernel
theorem dX10_grammar_25 : decode cX10_grammar 25 = .ok (.getfield 122, 3) := by decide +kernel
theorem dX10_grammar_28 : decode cX10_grammar 28 = .ok (.aload_n 0, 1) := by decide +kernel
theorem dX10_grammar_29 : decode cX10_grammar 29 = .ok (.getfield 117, 3) := by decide +kernel
theorem dX10_grammar_32 : decode cX10_grammar 32 = .ok (.if_icmp .ne 11, 3) := by decide +kernel
theorem dX10_grammar_35 : decode cX10_grammar 35 = .ok (.aload_n 0, 1) := by decide +kernel
theorem dX10_grammar_36 : decode cX10_grammar 36 = .ok (.aload_n 0, 1) := by decide +kernel
theorem dX10_grammar_37 : decode cX10_grammar 37 = .ok (.getfield 122, 3) := by decide +kernel
theorem dX10_grammar_40 : decode cX10_grammar 40 = .ok (.invokevirtual 143, 3) := by decide +kernel
theorem dX10_grammar_43 : decode cX10_grammar 43 = .ok (.aload_n 0, 1) := by decide +kernel
theorem dX10_grammar_44 : decode cX10_grammar 44 = .ok (.getfield 129, 3) := by decide +kernel
theorem dX10_grammar_47 : decode cX10_grammar 47 = .ok (.ifCond .ge 45, 3) := by decide +kernel
theorem dX10_grammar_50 : decode cX10_grammar 50 = .ok (.aload_n 0, 1) := by decide +kernel
theorem dX10_grammar_51 : decode cX10_grammar 51 = .ok (.getfield 122, 3) := by decide +kernel
theorem dX10_grammar_54 : decode cX10_grammar 54 = .ok (.aload_n 0, 1) := by decide +kernel
theorem dX10_grammar_55 : decode cX10_grammar 55 = .ok (.getfield 117, 3) := by decide +kernel
theorem dX10_grammar_58 : decode cX10_grammar 58 = .ok (.if_icmp .ge 34, 3) := by decide +kernel
theorem dX10_grammar_61 : decode cX10_grammar 61 = .ok (.aload_n 0, 1) := by decide +kernel
theorem dX10_grammar_62 : decode cX10_grammar 62 = .ok (.getfield 147, 3) := by decide +kernel
theorem dX10_grammar_65 : decode cX10_grammar 65 = .ok (.bipush 60, 2) := by decide +kernel
theorem dX10_grammar_67 : decode cX10_grammar 67 = .ok (.if_icmp .ne 14, 3) := by decide +kernel
theorem dX10_grammar_70 : decode cX10_grammar 70 = .ok (.aload_n 0, 1) := by decide +kernel
theorem dX10_grammar_71 : decode cX10_grammar 71 = .ok (.aload_n 0, 1) := by decide +kernel
theorem dX10_grammar_72 : decode cX10_grammar 72 = .ok (.getfield 122, 3) := by decide +kernel
theorem dX10_grammar_75 : decode cX10_grammar 75 = .ok (.invokevirtual 143, 3) := by decide +kernel
theorem dX10_grammar_78 : decode cX10_grammar 78 = .ok (.goto (-35), 3) := by decide +kernel
theorem dX10_grammar_81 : decode cX10_grammar 81 = .ok (.aload_n 0, 1) := by decide +kernel
theorem dX10_grammar_82 : decode cX10_grammar 82 = .ok (.invokevirtual 166, 3) := by decide +kernel
theorem dX10_grammar_85 : decode cX10_grammar 85 = .ok (.aload_n 0, 1) := by decide +kernel
theorem dX10_grammar_86 : decode cX10_grammar 86 = .ok (.invokevirtual 150, 3) := by decide +kernel
theorem dX10_grammar_89 : decode cX10_grammar 89 = .ok (.goto (-46), 3) := by decide +kernel
theorem dX10_grammar_92 : decode cX10_grammar 92 = .ok (.aload_n 0, 1) := by decide +kernel
theorem dX10_grammar_93 : decode cX10_grammar 93 = .ok (.getfield 129, 3) := by decide +kernel
theorem dX10_grammar_96 : decode cX10_grammar 96 = .ok (.ifCond .ge 7, 3) := by decide +kernel
theorem dX10_grammar_99 : decode cX10_grammar 99 = .ok (.aload_n 0, 1) := by decide +kernel
theorem dX10_grammar_100 : decode cX10_grammar 100 = .ok (.invokevirtual 169, 3) := by decide +kernel
theorem dX10_grammar_103 : decode cX10_grammar 103 = .ok (.aload_n 0, 1) := by decide +kernel
theorem dX10_grammar_104 : decode cX10_grammar 104 = .ok (.iconst 0, 1) := by decide +kernel
theorem dX10_grammar_105 : decode cX10_grammar 105 = .ok (.putfield 117, 3) := by decide +kernel
theorem dX10_grammar_108 : decode cX10_grammar 108 = .ok (.aload_n 0, 1) := by decide +kernel
theorem dX10_grammar_109 : decode cX10_grammar 109 = .ok (.getfield 129, 3) := by decide +kernel
theorem dX10_grammar_112 : decode cX10_grammar 112 = .ok (.ifCond .lt 11, 3) := by decide +kernel
theorem dX10_grammar_115 : decode cX10_grammar 115 = .ok (.bipush (-2), 2) := by decide +kernel
theorem dX10_grammar_117 : decode cX10_grammar 117 = .ok (.aload_n 0, 1) := by decide +kernel
theorem dX10_grammar_118 : decode cX10_grammar 118 = .ok (.getfield 129, 3) := by decide +kernel
theorem dX10_grammar_121 : decode cX10_grammar 121 = .ok (.isub, 1) := by decide +kernel
theorem dX10_grammar_122 : decode cX10_grammar 122 = .ok (.ireturn, 1) := by decide +kernel
theorem dX10_grammar_123 : decode cX10_grammar 123 = .ok (.aload_n 0, 1) := by decide +kernel
theorem dX10_grammar_124 : decode cX10_grammar 124 = .ok (.aload_n 0, 1) := by decide +kernel
theorem dX10_grammar_125 : decode cX10_grammar 125 = .ok (.getfield 147, 3) := by decide +kernel
theorem dX10_grammar_128 : decode cX10_grammar 128 = .ok (.putfield 172, 3) := by decide +kernel
theorem dX10_grammar_131 : decode cX10_grammar 131 = .ok (.iconst 0, 1) := by decide +kernel
theorem dX10_grammar_132 : decode cX10_grammar 132 = .ok (.istore_n 1, 1) := by decide +kernel
theorem dX10_grammar_133 : decode cX10_grammar 133 = .ok (.iload_n 1, 1) := by decide +kernel
theorem dX10_grammar_134 : decode cX10_grammar 134 = .ok (.aload_n 0, 1) := by decide +kernel
theorem dX10_grammar_135 : decode cX10_grammar 135 = .ok (.getfield 172, 3) := by decide +kernel
theorem dX10_grammar_138 : decode cX10_grammar 138 = .ok (.if_icmp .ge 57, 3) := by decide +kernel
theorem dX10_grammar_141 : decode cX10_grammar 141 = .ok (.aload_n 0, 1) := by decide +kernel
theorem dX10_grammar_142 : decode cX10_grammar 142 = .ok (.getfield 25, 3) := by decide +kernel
theorem dX10_grammar_145 : decode cX10_grammar 145 = .ok (.iload_n 1, 1) := by decide +kernel
theorem dX10_grammar_146 : decode cX10_grammar 146 = .ok (.aload_n 0, 1) := by decide +kernel
theorem dX10_grammar_147 : decode cX10_grammar 147 = .ok (.getfield 37, 3) := by decide +kernel
theorem dX10_grammar_150 : decode cX10_grammar 150 = .ok (.iload_n 1, 1) := by decide +kernel
theorem dX10_grammar_151 : decode cX10_grammar 151 = .ok (.iaload, 1) := by decide +kernel
theorem dX10_grammar_152 : decode cX10_grammar 152 = .ok (.iastore, 1) := by decide +kernel
theorem dX10_grammar_153 : decode cX10_grammar 153 = .ok (.aload_n 0, 1) := by decide +kernel
theorem dX10_grammar_154 : decode cX10_grammar 154 = .ok (.getfield 28, 3) := by decide +kernel
theorem dX10_grammar_157 : decode cX10_grammar 157 = .ok (.iload_n 1, 1) := by decide +kernel
theorem dX10_grammar_158 : decode cX10_grammar 158 = .ok (.aload_n 0, 1) := by decide +kernel
theorem dX10_grammar_159 : decode cX10_grammar 159 = .ok (.getfield 40, 3) := by decide +kernel
theorem dX10_grammar_162 : decode cX10_grammar 162 = .ok (.iload_n 1, 1) := by decide +kernel
theorem dX10_grammar_163 : decode cX10_grammar 163 = .ok (.iaload, 1) := by decide +kernel
theorem dX10_grammar_164 : decode cX10_grammar 164 = .ok (.iastore, 1) := by decide +kernel
theorem dX10_grammar_165 : decode cX10_grammar 165 = .ok (.aload_n 0, 1) := by decide +kernel
theorem dX10_grammar_166 : decode cX10_grammar 166 = .ok (.getfield 31, 3) := by decide +kernel
theorem dX10_grammar_169 : decode cX10_grammar 169 = .ok (.iload_n 1, 1) := by decide +kernel
theorem dX10_grammar_170 : decode cX10_grammar 170 = .ok (.aload_n 0, 1) := by decide +kernel
theorem dX10_grammar_171 : decode cX10_grammar 171 = .ok (.getfield 43, 3) := by decide +kernel
theorem dX10_grammar_174 : decode cX10_grammar 174 = .ok (.iload_n 1, 1) := by decide +kernel
theorem dX10_grammar_175 : decode cX10_grammar 175 = .ok (.iaload, 1) := by decide +kernel
theorem dX10_grammar_176 : decode cX10_grammar 176 = .ok (.iastore, 1) := by decide +kernel
theorem dX10_grammar_177 : decode cX10_grammar 177 = .ok (.aload_n 0, 1) := by decide +kernel
theorem dX10_grammar_178 : decode cX10_grammar 178 = .ok (.getfield 34, 3) := by decide +kernel
theorem dX10_grammar_181 : decode cX10_grammar 181 = .ok (.iload_n 1, 1) := by decide +kernel
theorem dX10_grammar_182 : decode cX10_grammar 182 = .ok (.aload_n 0, 1) := by decide +kernel
theorem dX10_grammar_183 : decode cX10_grammar 183 = .ok (.getfield 46, 3) := by decide +kernel
theorem dX10_grammar_186 : decode cX10_grammar 186 = .ok (.iload_n 1, 1) := by decide +kernel
theorem dX10_grammar_187 : decode cX10_grammar 187 = .ok (.iaload, 1) := by decide +kernel
theorem dX10_grammar_188 : decode cX10_grammar 188 = .ok (.iastore, 1) := by decide +kernel
theorem dX10_grammar_189 : decode cX10_grammar 189 = .ok (.iinc 1 1, 3) := by decide +kernel
theorem dX10_grammar_192 : decode cX10_grammar 192 = .ok (.goto (-59), 3) := by decide +kernel
theorem dX10_grammar_195 : decode cX10_grammar 195 = .ok (.aload_n 0, 1) := by decide +kernel
theorem dX10_grammar_196 : decode cX10_grammar 196 = .ok (.getfield 172, 3) := by decide +kernel
theorem dX10_grammar_199 : decode cX10_grammar 199 = .ok (.ireturn, 1) := by decide +kernel
theorem dX10_slot_0 : decode cX10_slot 0 = .ok (.aload_n 0, 1) := by decide +kernel
theorem dX10_slot_1 : decode cX10_slot 1 = .ok (.iconst 0, 1) := by decide +kernel
theorem dX10_slot_2 : decode cX10_slot 2 = .ok (.putfield 106, 3) := by decide +kernel
theorem dX10_slot_5 : decode cX10_slot 5 = .ok (.aload_n 0, 1) := by decide +kernel
theorem dX10_slot_6 : decode cX10_slot 6 = .ok (.getfield 175, 3) := by decide +kernel
theorem dX10_slot_9 : decode cX10_slot 9 = .ok (.bipush 24, 2) := by decide +kernel
theorem dX10_slot_11 : decode cX10_slot 11 = .ok (.if_icmp .eq 49, 3) := by decide +kernel
theorem dX10_slot_14 : decode cX10_slot 14 = .ok (.iload_n 1, 1) := by decide +kernel
theorem dX10_slot_15 : decode cX10_slot 15 = .ok (.iconst 1, 1) := by decide +kernel
theorem dX10_slot_16 : decode cX10_slot 16 = .ok (.if_icmp .lt 44, 3) := by decide +kernel
theorem dX10_slot_19 : decode cX10_slot 19 = .ok (.iload_n 1, 1) := by decide +kernel
theorem dX10_slot_20 : decode cX10_slot 20 = .ok (.sipush 4095, 3) := by decide +kernel
theorem dX10_slot_23 : decode cX10_slot 23 = .ok (.if_icmp .gt 37, 3) := by decide +kernel
theorem dX10_slot_26 : decode cX10_slot 26 = .ok (.iload_n 2, 1) := by decide +kernel
theorem dX10_slot_27 : decode cX10_slot 27 = .ok (.iconst (-1), 1) := by decide +kernel
theorem dX10_slot_28 : decode cX10_slot 28 = .ok (.if_icmp .eq 21, 3) := by decide +kernel
theorem dX10_slot_31 : decode cX10_slot 31 = .ok (.iload_n 2, 1) := by decide +kernel
theorem dX10_slot_32 : decode cX10_slot 32 = .ok (.ifCond .lt 28, 3) := by decide +kernel
theorem dX10_slot_35 : decode cX10_slot 35 = .ok (.iload_n 2, 1) := by decide +kernel
theorem dX10_slot_36 : decode cX10_slot 36 = .ok (.bipush 11, 2) := by decide +kernel
theorem dX10_slot_38 : decode cX10_slot 38 = .ok (.if_icmp .gt 22, 3) := by decide +kernel
theorem dX10_slot_41 : decode cX10_slot 41 = .ok (.iload_n 1, 1) := by decide +kernel
theorem dX10_slot_42 : decode cX10_slot 42 = .ok (.iload_n 2, 1) := by decide +kernel
theorem dX10_slot_43 : decode cX10_slot 43 = .ok (.ishr, 1) := by decide +kernel
theorem dX10_slot_44 : decode cX10_slot 44 = .ok (.iconst 1, 1) := by decide +kernel
theorem dX10_slot_45 : decode cX10_slot 45 = .ok (.iand, 1) := by decide +kernel
theorem dX10_slot_46 : decode cX10_slot 46 = .ok (.ifCond .eq 14, 3) := by decide +kernel
theorem dX10_slot_49 : decode cX10_slot 49 = .ok (.iload_n 3, 1) := by decide +kernel
theorem dX10_slot_50 : decode cX10_slot 50 = .ok (.iconst (-1), 1) := by decide +kernel
theorem dX10_slot_51 : decode cX10_slot 51 = .ok (.if_icmp .lt 9, 3) := by decide +kernel
theorem dX10_slot_54 : decode cX10_slot 54 = .ok (.iload_n 3, 1) := by decide +kernel
theorem dX10_slot_55 : decode cX10_slot 55 = .ok (.bipush 127, 2) := by decide +kernel
theorem dX10_slot_57 : decode cX10_slot 57 = .ok (.if_icmp .le 5, 3) := by decide +kernel
theorem dX10_slot_60 : decode cX10_slot 60 = .ok (.iconst (-1), 1) := by decide +kernel
theorem dX10_slot_61 : decode cX10_slot 61 = .ok (.ireturn, 1) := by decide +kernel
theorem dX10_slot_62 : decode cX10_slot 62 = .ok (.aload_n 0, 1) := by decide +kernel
theorem dX10_slot_63 : decode cX10_slot 63 = .ok (.getfield 16, 3) := by decide +kernel
theorem dX10_slot_66 : decode cX10_slot 66 = .ok (.aload_n 0, 1) := by decide +kernel
theorem dX10_slot_67 : decode cX10_slot 67 = .ok (.getfield 175, 3) := by decide +kernel
theorem dX10_slot_70 : decode cX10_slot 70 = .ok (.iload_n 1, 1) := by decide +kernel
theorem dX10_slot_71 : decode cX10_slot 71 = .ok (.iastore, 1) := by decide +kernel
theorem dX10_slot_72 : decode cX10_slot 72 = .ok (.aload_n 0, 1) := by decide +kernel
theorem dX10_slot_73 : decode cX10_slot 73 = .ok (.getfield 19, 3) := by decide +kernel
theorem dX10_slot_76 : decode cX10_slot 76 = .ok (.aload_n 0, 1) := by decide +kernel
theorem dX10_slot_77 : decode cX10_slot 77 = .ok (.getfield 175, 3) := by decide +kernel
theorem dX10_slot_80 : decode cX10_slot 80 = .ok (.iload_n 2, 1) := by decide +kernel
theorem dX10_slot_81 : decode cX10_slot 81 = .ok (.iastore, 1) := by decide +kernel
theorem dX10_slot_82 : decode cX10_slot 82 = .ok (.aload_n 0, 1) := by decide +kernel
theorem dX10_slot_83 : decode cX10_slot 83 = .ok (.getfield 22, 3) := by decide +kernel
theorem dX10_slot_86 : decode cX10_slot 86 = .ok (.aload_n 0, 1) := by decide +kernel
theorem dX10_slot_87 : decode cX10_slot 87 = .ok (.getfield 175, 3) := by decide +kernel
theorem dX10_slot_90 : decode cX10_slot 90 = .ok (.iload_n 3, 1) := by decide +kernel
theorem dX10_slot_91 : decode cX10_slot 91 = .ok (.iastore, 1) := by decide +kernel
theorem dX10_slot_92 : decode cX10_slot 92 = .ok (.aload_n 0, 1) := by decide +kernel
theorem dX10_slot_93 : decode cX10_slot 93 = .ok (.dup, 1) := by decide +kernel
theorem dX10_slot_94 : decode cX10_slot 94 = .ok (.getfield 175, 3) := by decide +kernel
theorem dX10_slot_97 : decode cX10_slot 97 = .ok (.iconst 1, 1) := by decide +kernel
theorem dX10_slot_98 : decode cX10_slot 98 = .ok (.iadd, 1) := by decide +kernel
theorem dX10_slot_99 : decode cX10_slot 99 = .ok (.putfield 175, 3) := by decide +kernel
theorem dX10_slot_102 : decode cX10_slot 102 = .ok (.aload_n 0, 1) := by decide +kernel
theorem dX10_slot_103 : decode cX10_slot 103 = .ok (.getfield 175, 3) := by decide +kernel
theorem dX10_slot_106 : decode cX10_slot 106 = .ok (.iconst 1, 1) := by decide +kernel
theorem dX10_slot_107 : decode cX10_slot 107 = .ok (.isub, 1) := by decide +kernel
theorem dX10_slot_108 : decode cX10_slot 108 = .ok (.ireturn, 1) := by decide +kernel
theorem dX10_clear_0 : decode cX10_clear 0 = .ok (.aload_n 0, 1) := by decide +kernel
theorem dX10_clear_1 : decode cX10_clear 1 = .ok (.iconst 0, 1) := by decide +kernel
theorem dX10_clear_2 : decode cX10_clear 2 = .ok (.putfield 106, 3) := by decide +kernel
theorem dX10_clear_5 : decode cX10_clear 5 = .ok (.aload_n 0, 1) := by decide +kernel
theorem dX10_clear_6 : decode cX10_clear 6 = .ok (.getfield 175, 3) := by decide +kernel
theorem dX10_clear_9 : decode cX10_clear 9 = .ok (.istore_n 1, 1) := by decide +kernel
theorem dX10_clear_10 : decode cX10_clear 10 = .ok (.aload_n 0, 1) := by decide +kernel
theorem dX10_clear_11 : decode cX10_clear 11 = .ok (.iconst 0, 1) := by decide +kernel
theorem dX10_clear_12 : decode cX10_clear 12 = .ok (.putfield 175, 3) := by decide +kernel
theorem dX10_clear_15 : decode cX10_clear 15 = .ok (.iload_n 1, 1) := by decide +kernel
theorem dX10_clear_16 : decode cX10_clear 16 = .ok (.ireturn, 1) := by decide +kernel
theorem dX10_shape_0 : decode cX10_shape 0 = .ok (.iload_n 0, 1) := by decide +kernel
theorem dX10_shape_1 : decode cX10_shape 1 = .ok (.tableswitch 78 0 7 #[47, 51, 55, 58, 62, 66, 70, 74], 47) := by decide +kernel
theorem dX10_shape_48 : decode cX10_shape 48 = .ok (.sipush 145, 3) := by decide +kernel
theorem dX10_shape_51 : decode cX10_shape 51 = .ok (.ireturn, 1) := by decide +kernel
theorem dX10_shape_52 : decode cX10_shape 52 = .ok (.sipush 137, 3) := by decide +kernel
theorem dX10_shape_55 : decode cX10_shape 55 = .ok (.ireturn, 1) := by decide +kernel
theorem dX10_shape_56 : decode cX10_shape 56 = .ok (.bipush 73, 2) := by decide +kernel
theorem dX10_shape_58 : decode cX10_shape 58 = .ok (.ireturn, 1) := by decide +kernel
theorem dX10_shape_59 : decode cX10_shape 59 = .ok (.sipush 273, 3) := by decide +kernel
theorem dX10_shape_62 : decode cX10_shape 62 = .ok (.ireturn, 1) := by decide +kernel
theorem dX10_shape_63 : decode cX10_shape 63 = .ok (.sipush 1169, 3) := by decide +kernel
theorem dX10_shape_66 : decode cX10_shape 66 = .ok (.ireturn, 1) := by decide +kernel
theorem dX10_shape_67 : decode cX10_shape 67 = .ok (.sipush 2193, 3) := by decide +kernel
theorem dX10_shape_70 : decode cX10_shape 70 = .ok (.ireturn, 1) := by decide +kernel
theorem dX10_shape_71 : decode cX10_shape 71 = .ok (.sipush 1161, 3) := by decide +kernel
theorem dX10_shape_74 : decode cX10_shape 74 = .ok (.ireturn, 1) := by decide +kernel
theorem dX10_shape_75 : decode cX10_shape 75 = .ok (.sipush 1097, 3) := by decide +kernel
theorem dX10_shape_78 : decode cX10_shape 78 = .ok (.ireturn, 1) := by decide +kernel
theorem dX10_shape_79 : decode cX10_shape 79 = .ok (.sipush 585, 3) := by decide +kernel
theorem dX10_shape_82 : decode cX10_shape 82 = .ok (.ireturn, 1) := by decide +kernel
theorem dX10_classes_0 : decode cX10_classes 0 = .ok (.iload_n 1, 1) := by decide +kernel
theorem dX10_classes_1 : decode cX10_classes 1 = .ok (.invokestatic 178, 3) := by decide +kernel
theorem dX10_classes_4 : decode cX10_classes 4 = .ok (.iload_n 0, 1) := by decide +kernel
theorem dX10_classes_5 : decode cX10_classes 5 = .ok (.ishl, 1) := by decide +kernel
theorem dX10_classes_6 : decode cX10_classes 6 = .ok (.istore_n 2, 1) := by decide +kernel
theorem dX10_classes_7 : decode cX10_classes 7 = .ok (.iload_n 2, 1) := by decide +kernel
theorem dX10_classes_8 : decode cX10_classes 8 = .ok (.iload_n 2, 1) := by decide +kernel
theorem dX10_classes_9 : decode cX10_classes 9 = .ok (.bipush 12, 2) := by decide +kernel
theorem dX10_classes_11 : decode cX10_classes 11 = .ok (.ishr, 1) := by decide +kernel
theorem dX10_classes_12 : decode cX10_classes 12 = .ok (.ior, 1) := by decide +kernel
theorem dX10_classes_13 : decode cX10_classes 13 = .ok (.sipush 4095, 3) := by decide +kernel
theorem dX10_classes_16 : decode cX10_classes 16 = .ok (.iand, 1) := by decide +kernel
theorem dX10_classes_17 : decode cX10_classes 17 = .ok (.ireturn, 1) := by decide +kernel
theorem dX10_many_0 : decode cX10_many 0 = .ok (.iconst 0, 1) := by decide +kernel
theorem dX10_many_1 : decode cX10_many 1 = .ok (.istore_n 1, 1) := by decide +kernel
theorem dX10_many_2 : decode cX10_many 2 = .ok (.iload_n 0, 1) := by decide +kernel
theorem dX10_many_3 : decode cX10_many 3 = .ok (.istore_n 2, 1) := by decide +kernel
theorem dX10_many_4 : decode cX10_many 4 = .ok (.iload_n 2, 1) := by decide +kernel
theorem dX10_many_5 : decode cX10_many 5 = .ok (.ifCond .le 16, 3) := by decide +kernel
theorem dX10_many_8 : decode cX10_many 8 = .ok (.iload_n 1, 1) := by decide +kernel
theorem dX10_many_9 : decode cX10_many 9 = .ok (.iload_n 2, 1) := by decide +kernel
theorem dX10_many_10 : decode cX10_many 10 = .ok (.iconst 1, 1) := by decide +kernel
theorem dX10_many_11 : decode cX10_many 11 = .ok (.iand, 1) := by decide +kernel
theorem dX10_many_12 : decode cX10_many 12 = .ok (.iadd, 1) := by decide +kernel
theorem dX10_many_13 : decode cX10_many 13 = .ok (.istore_n 1, 1) := by decide +kernel
theorem dX10_many_14 : decode cX10_many 14 = .ok (.iload_n 2, 1) := by decide +kernel
theorem dX10_many_15 : decode cX10_many 15 = .ok (.iconst 1, 1) := by decide +kernel
theorem dX10_many_16 : decode cX10_many 16 = .ok (.ishr, 1) := by decide +kernel
theorem dX10_many_17 : decode cX10_many 17 = .ok (.istore_n 2, 1) := by decide +kernel
theorem dX10_many_18 : decode cX10_many 18 = .ok (.goto (-14), 3) := by decide +kernel
theorem dX10_many_21 : decode cX10_many 21 = .ok (.iload_n 1, 1) := by decide +kernel
theorem dX10_many_22 : decode cX10_many 22 = .ok (.ireturn, 1) := by decide +kernel
theorem dX10_fits_0 : decode cX10_fits 0 = .ok (.iload_n 2, 1) := by decide +kernel
theorem dX10_fits_1 : decode cX10_fits 1 = .ok (.iload_n 3, 1) := by decide +kernel
theorem dX10_fits_2 : decode cX10_fits 2 = .ok (.invokestatic 181, 3) := by decide +kernel
theorem dX10_fits_5 : decode cX10_fits 5 = .ok (.istore 4, 2) := by decide +kernel
theorem dX10_fits_7 : decode cX10_fits 7 = .ok (.iload 4, 2) := by decide +kernel
theorem dX10_fits_9 : decode cX10_fits 9 = .ok (.aload_n 0, 1) := by decide +kernel
theorem dX10_fits_10 : decode cX10_fits 10 = .ok (.getfield 16, 3) := by decide +kernel
theorem dX10_fits_13 : decode cX10_fits 13 = .ok (.iload_n 1, 1) := by decide +kernel
theorem dX10_fits_14 : decode cX10_fits 14 = .ok (.iaload, 1) := by decide +kernel
theorem dX10_fits_15 : decode cX10_fits 15 = .ok (.iand, 1) := by decide +kernel
theorem dX10_fits_16 : decode cX10_fits 16 = .ok (.invokestatic 185, 3) := by decide +kernel
theorem dX10_fits_19 : decode cX10_fits 19 = .ok (.istore 5, 2) := by decide +kernel
theorem dX10_fits_21 : decode cX10_fits 21 = .ok (.iload 5, 2) := by decide +kernel
theorem dX10_fits_23 : decode cX10_fits 23 = .ok (.iconst 2, 1) := by decide +kernel
theorem dX10_fits_24 : decode cX10_fits 24 = .ok (.if_icmp .ge 5, 3) := by decide +kernel
theorem dX10_fits_27 : decode cX10_fits 27 = .ok (.iconst (-1), 1) := by decide +kernel
theorem dX10_fits_28 : decode cX10_fits 28 = .ok (.ireturn, 1) := by decide +kernel
theorem dX10_fits_29 : decode cX10_fits 29 = .ok (.aload_n 0, 1) := by decide +kernel
theorem dX10_fits_30 : decode cX10_fits 30 = .ok (.getfield 19, 3) := by decide +kernel
theorem dX10_fits_33 : decode cX10_fits 33 = .ok (.iload_n 1, 1) := by decide +kernel
theorem dX10_fits_34 : decode cX10_fits 34 = .ok (.iaload, 1) := by decide +kernel
theorem dX10_fits_35 : decode cX10_fits 35 = .ok (.istore 6, 2) := by decide +kernel
theorem dX10_fits_37 : decode cX10_fits 37 = .ok (.iload 6, 2) := by decide +kernel
theorem dX10_fits_39 : decode cX10_fits 39 = .ok (.iconst (-1), 1) := by decide +kernel
theorem dX10_fits_40 : decode cX10_fits 40 = .ok (.if_icmp .eq 9, 3) := by decide +kernel
theorem dX10_fits_43 : decode cX10_fits 43 = .ok (.iload 6, 2) := by decide +kernel
theorem dX10_fits_45 : decode cX10_fits 45 = .ok (.iload_n 2, 1) := by decide +kernel
theorem dX10_fits_46 : decode cX10_fits 46 = .ok (.if_icmp .ne 7, 3) := by decide +kernel
theorem dX10_fits_49 : decode cX10_fits 49 = .ok (.iconst 0, 1) := by decide +kernel
theorem dX10_fits_50 : decode cX10_fits 50 = .ok (.goto 29, 3) := by decide +kernel
theorem dX10_fits_53 : decode cX10_fits 53 = .ok (.iload 4, 2) := by decide +kernel
theorem dX10_fits_55 : decode cX10_fits 55 = .ok (.iload 6, 2) := by decide +kernel
theorem dX10_fits_57 : decode cX10_fits 57 = .ok (.ishr, 1) := by decide +kernel
theorem dX10_fits_58 : decode cX10_fits 58 = .ok (.iconst 1, 1) := by decide +kernel
theorem dX10_fits_59 : decode cX10_fits 59 = .ok (.iand, 1) := by decide +kernel
theorem dX10_fits_60 : decode cX10_fits 60 = .ok (.iconst 1, 1) := by decide +kernel
theorem dX10_fits_61 : decode cX10_fits 61 = .ok (.if_icmp .ne 12, 3) := by decide +kernel
theorem dX10_fits_64 : decode cX10_fits 64 = .ok (.aload_n 0, 1) := by decide +kernel
theorem dX10_fits_65 : decode cX10_fits 65 = .ok (.getfield 7, 3) := by decide +kernel
theorem dX10_fits_68 : decode cX10_fits 68 = .ok (.iconst 2, 1) := by decide +kernel
theorem dX10_fits_69 : decode cX10_fits 69 = .ok (.iaload, 1) := by decide +kernel
theorem dX10_fits_70 : decode cX10_fits 70 = .ok (.goto 9, 3) := by decide +kernel
theorem dX10_fits_73 : decode cX10_fits 73 = .ok (.aload_n 0, 1) := by decide +kernel
theorem dX10_fits_74 : decode cX10_fits 74 = .ok (.getfield 7, 3) := by decide +kernel
theorem dX10_fits_77 : decode cX10_fits 77 = .ok (.iconst 3, 1) := by decide +kernel
theorem dX10_fits_78 : decode cX10_fits 78 = .ok (.iaload, 1) := by decide +kernel
theorem dX10_fits_79 : decode cX10_fits 79 = .ok (.istore 7, 2) := by decide +kernel
theorem dX10_fits_81 : decode cX10_fits 81 = .ok (.aload_n 0, 1) := by decide +kernel
theorem dX10_fits_82 : decode cX10_fits 82 = .ok (.getfield 7, 3) := by decide +kernel
theorem dX10_fits_85 : decode cX10_fits 85 = .ok (.iconst 0, 1) := by decide +kernel
theorem dX10_fits_86 : decode cX10_fits 86 = .ok (.iaload, 1) := by decide +kernel
theorem dX10_fits_87 : decode cX10_fits 87 = .ok (.aload_n 0, 1) := by decide +kernel
theorem dX10_fits_88 : decode cX10_fits 88 = .ok (.getfield 16, 3) := by decide +kernel
theorem dX10_fits_91 : decode cX10_fits 91 = .ok (.iload_n 1, 1) := by decide +kernel
theorem dX10_fits_92 : decode cX10_fits 92 = .ok (.iaload, 1) := by decide +kernel
theorem dX10_fits_93 : decode cX10_fits 93 = .ok (.iload 4, 2) := by decide +kernel
theorem dX10_fits_95 : decode cX10_fits 95 = .ok (.iconst (-1), 1) := by decide +kernel
theorem dX10_fits_96 : decode cX10_fits 96 = .ok (.ixor, 1) := by decide +kernel
theorem dX10_fits_97 : decode cX10_fits 97 = .ok (.iand, 1) := by decide +kernel
theorem dX10_fits_98 : decode cX10_fits 98 = .ok (.invokestatic 185, 3) := by decide +kernel
theorem dX10_fits_101 : decode cX10_fits 101 = .ok (.imul, 1) := by decide +kernel
theorem dX10_fits_102 : decode cX10_fits 102 = .ok (.aload_n 0, 1) := by decide +kernel
theorem dX10_fits_103 : decode cX10_fits 103 = .ok (.getfield 7, 3) := by decide +kernel
theorem dX10_fits_106 : decode cX10_fits 106 = .ok (.iconst 1, 1) := by decide +kernel
theorem dX10_fits_107 : decode cX10_fits 107 = .ok (.iaload, 1) := by decide +kernel
theorem dX10_fits_108 : decode cX10_fits 108 = .ok (.iload 4, 2) := by decide +kernel
theorem dX10_fits_110 : decode cX10_fits 110 = .ok (.aload_n 0, 1) := by decide +kernel
theorem dX10_fits_111 : decode cX10_fits 111 = .ok (.getfield 16, 3) := by decide +kernel
theorem dX10_fits_114 : decode cX10_fits 114 = .ok (.iload_n 1, 1) := by decide +kernel
theorem dX10_fits_115 : decode cX10_fits 115 = .ok (.iaload, 1) := by decide +kernel
theorem dX10_fits_116 : decode cX10_fits 116 = .ok (.iconst (-1), 1) := by decide +kernel
theorem dX10_fits_117 : decode cX10_fits 117 = .ok (.ixor, 1) := by decide +kernel
theorem dX10_fits_118 : decode cX10_fits 118 = .ok (.iand, 1) := by decide +kernel
theorem dX10_fits_119 : decode cX10_fits 119 = .ok (.invokestatic 185, 3) := by decide +kernel
theorem dX10_fits_122 : decode cX10_fits 122 = .ok (.imul, 1) := by decide +kernel
theorem dX10_fits_123 : decode cX10_fits 123 = .ok (.iadd, 1) := by decide +kernel
theorem dX10_fits_124 : decode cX10_fits 124 = .ok (.iload 7, 2) := by decide +kernel
theorem dX10_fits_126 : decode cX10_fits 126 = .ok (.iadd, 1) := by decide +kernel
theorem dX10_fits_127 : decode cX10_fits 127 = .ok (.ireturn, 1) := by decide +kernel
theorem dX10_fit_0 : decode cX10_fit 0 = .ok (.aload_n 0, 1) := by decide +kernel
theorem dX10_fit_1 : decode cX10_fit 1 = .ok (.iconst 0, 1) := by decide +kernel
theorem dX10_fit_2 : decode cX10_fit 2 = .ok (.putfield 106, 3) := by decide +kernel
theorem dX10_fit_5 : decode cX10_fit 5 = .ok (.iload_n 1, 1) := by decide +kernel
theorem dX10_fit_6 : decode cX10_fit 6 = .ok (.ifCond .lt 31, 3) := by decide +kernel
theorem dX10_fit_9 : decode cX10_fit 9 = .ok (.iload_n 1, 1) := by decide +kernel
theorem dX10_fit_10 : decode cX10_fit 10 = .ok (.aload_n 0, 1) := by decide +kernel
theorem dX10_fit_11 : decode cX10_fit 11 = .ok (.getfield 175, 3) := by decide +kernel
theorem dX10_fit_14 : decode cX10_fit 14 = .ok (.if_icmp .ge 23, 3) := by decide +kernel
theorem dX10_fit_17 : decode cX10_fit 17 = .ok (.iload_n 2, 1) := by decide +kernel
theorem dX10_fit_18 : decode cX10_fit 18 = .ok (.ifCond .lt 19, 3) := by decide +kernel
theorem dX10_fit_21 : decode cX10_fit 21 = .ok (.iload_n 2, 1) := by decide +kernel
theorem dX10_fit_22 : decode cX10_fit 22 = .ok (.bipush 11, 2) := by decide +kernel
theorem dX10_fit_24 : decode cX10_fit 24 = .ok (.if_icmp .gt 13, 3) := by decide +kernel
theorem dX10_fit_27 : decode cX10_fit 27 = .ok (.iload_n 3, 1) := by decide +kernel
theorem dX10_fit_28 : decode cX10_fit 28 = .ok (.ifCond .lt 9, 3) := by decide +kernel
theorem dX10_fit_31 : decode cX10_fit 31 = .ok (.iload_n 3, 1) := by decide +kernel
theorem dX10_fit_32 : decode cX10_fit 32 = .ok (.bipush 8, 2) := by decide +kernel
theorem dX10_fit_34 : decode cX10_fit 34 = .ok (.if_icmp .le 7, 3) := by decide +kernel
theorem dX10_fit_37 : decode cX10_fit 37 = .ok (.iconst (-1), 1) := by decide +kernel
theorem dX10_fit_38 : decode cX10_fit 38 = .ok (.goto 10, 3) := by decide +kernel
theorem dX10_fit_41 : decode cX10_fit 41 = .ok (.aload_n 0, 1) := by decide +kernel
theorem dX10_fit_42 : decode cX10_fit 42 = .ok (.iload_n 1, 1) := by decide +kernel
theorem dX10_fit_43 : decode cX10_fit 43 = .ok (.iload_n 2, 1) := by decide +kernel
theorem dX10_fit_44 : decode cX10_fit 44 = .ok (.iload_n 3, 1) := by decide +kernel
theorem dX10_fit_45 : decode cX10_fit 45 = .ok (.invokevirtual 188, 3) := by decide +kernel
theorem dX10_fit_48 : decode cX10_fit 48 = .ok (.ireturn, 1) := by decide +kernel
theorem dX10_best_0 : decode cX10_best 0 = .ok (.aload_n 0, 1) := by decide +kernel
theorem dX10_best_1 : decode cX10_best 1 = .ok (.iconst 0, 1) := by decide +kernel
theorem dX10_best_2 : decode cX10_best 2 = .ok (.putfield 106, 3) := by decide +kernel
theorem dX10_best_5 : decode cX10_best 5 = .ok (.iconst (-1), 1) := by decide +kernel
theorem dX10_best_6 : decode cX10_best 6 = .ok (.istore_n 2, 1) := by decide +kernel
theorem dX10_best_7 : decode cX10_best 7 = .ok (.iconst (-1), 1) := by decide +kernel
theorem dX10_best_8 : decode cX10_best 8 = .ok (.istore_n 3, 1) := by decide +kernel
theorem dX10_best_9 : decode cX10_best 9 = .ok (.iconst 0, 1) := by decide +kernel
theorem dX10_best_10 : decode cX10_best 10 = .ok (.istore 4, 2) := by decide +kernel
theorem dX10_best_12 : decode cX10_best 12 = .ok (.iload 4, 2) := by decide +kernel
theorem dX10_best_14 : decode cX10_best 14 = .ok (.bipush 108, 2) := by decide +kernel
theorem dX10_best_16 : decode cX10_best 16 = .ok (.if_icmp .ge 59, 3) := by decide +kernel
theorem dX10_best_19 : decode cX10_best 19 = .ok (.iload_n 1, 1) := by decide +kernel
theorem dX10_best_20 : decode cX10_best 20 = .ok (.ifCond .lt 55, 3) := by decide +kernel
theorem dX10_best_23 : decode cX10_best 23 = .ok (.iload_n 1, 1) := by decide +kernel
theorem dX10_best_24 : decode cX10_best 24 = .ok (.aload_n 0, 1) := by decide +kernel
theorem dX10_best_25 : decode cX10_best 25 = .ok (.getfield 175, 3) := by decide +kernel
theorem dX10_best_28 : decode cX10_best 28 = .ok (.if_icmp .ge 47, 3) := by decide +kernel
theorem dX10_best_31 : decode cX10_best 31 = .ok (.aload_n 0, 1) := by decide +kernel
theorem dX10_best_32 : decode cX10_best 32 = .ok (.iload_n 1, 1) := by decide +kernel
theorem dX10_best_33 : decode cX10_best 33 = .ok (.iload 4, 2) := by decide +kernel
theorem dX10_best_35 : decode cX10_best 35 = .ok (.bipush 12, 2) := by decide +kernel
theorem dX10_best_37 : decode cX10_best 37 = .ok (.irem, 1) := by decide +kernel
theorem dX10_best_38 : decode cX10_best 38 = .ok (.iload 4, 2) := by decide +kernel
theorem dX10_best_40 : decode cX10_best 40 = .ok (.bipush 12, 2) := by decide +kernel
theorem dX10_best_42 : decode cX10_best 42 = .ok (.idiv, 1) := by decide +kernel
theorem dX10_best_43 : decode cX10_best 43 = .ok (.invokevirtual 188, 3) := by decide +kernel
theorem dX10_best_46 : decode cX10_best 46 = .ok (.istore 5, 2) := by decide +kernel
theorem dX10_best_48 : decode cX10_best 48 = .ok (.iload 5, 2) := by decide +kernel
theorem dX10_best_50 : decode cX10_best 50 = .ok (.ifCond .lt 19, 3) := by decide +kernel
theorem dX10_best_53 : decode cX10_best 53 = .ok (.iload_n 3, 1) := by decide +kernel
theorem dX10_best_54 : decode cX10_best 54 = .ok (.ifCond .lt 9, 3) := by decide +kernel
theorem dX10_best_57 : decode cX10_best 57 = .ok (.iload 5, 2) := by decide +kernel
theorem dX10_best_59 : decode cX10_best 59 = .ok (.iload_n 2, 1) := by decide +kernel
theorem dX10_best_60 : decode cX10_best 60 = .ok (.if_icmp .ge 9, 3) := by decide +kernel
theorem dX10_best_63 : decode cX10_best 63 = .ok (.iload 5, 2) := by decide +kernel
theorem dX10_best_65 : decode cX10_best 65 = .ok (.istore_n 2, 1) := by decide +kernel
theorem dX10_best_66 : decode cX10_best 66 = .ok (.iload 4, 2) := by decide +kernel
theorem dX10_best_68 : decode cX10_best 68 = .ok (.istore_n 3, 1) := by decide +kernel
theorem dX10_best_69 : decode cX10_best 69 = .ok (.iinc 4 1, 3) := by decide +kernel
theorem dX10_best_72 : decode cX10_best 72 = .ok (.goto (-60), 3) := by decide +kernel
theorem dX10_best_75 : decode cX10_best 75 = .ok (.iload_n 3, 1) := by decide +kernel
theorem dX10_best_76 : decode cX10_best 76 = .ok (.ireturn, 1) := by decide +kernel
theorem dX10_degree_0 : decode cX10_degree 0 = .ok (.iload_n 1, 1) := by decide +kernel
theorem dX10_degree_1 : decode cX10_degree 1 = .ok (.tableswitch 76 1 6 #[39, 41, 43, 56, 58, 61], 39) := by decide +kernel
theorem dX10_degree_40 : decode cX10_degree 40 = .ok (.iconst 0, 1) := by decide +kernel
theorem dX10_degree_41 : decode cX10_degree 41 = .ok (.ireturn, 1) := by decide +kernel
theorem dX10_degree_42 : decode cX10_degree 42 = .ok (.iconst 2, 1) := by decide +kernel
theorem dX10_degree_43 : decode cX10_degree 43 = .ok (.ireturn, 1) := by decide +kernel
theorem dX10_degree_44 : decode cX10_degree 44 = .ok (.aload_n 0, 1) := by decide +kernel
theorem dX10_degree_45 : decode cX10_degree 45 = .ok (.getfield 113, 3) := by decide +kernel
theorem dX10_degree_48 : decode cX10_degree 48 = .ok (.ifCond .eq 7, 3) := by decide +kernel
theorem dX10_degree_51 : decode cX10_degree 51 = .ok (.iconst 3, 1) := by decide +kernel
theorem dX10_degree_52 : decode cX10_degree 52 = .ok (.goto 4, 3) := by decide +kernel
theorem dX10_degree_55 : decode cX10_degree 55 = .ok (.iconst 4, 1) := by decide +kernel
theorem dX10_degree_56 : decode cX10_degree 56 = .ok (.ireturn, 1) := by decide +kernel
theorem dX10_degree_57 : decode cX10_degree 57 = .ok (.iconst 5, 1) := by decide +kernel
theorem dX10_degree_58 : decode cX10_degree 58 = .ok (.ireturn, 1) := by decide +kernel
theorem dX10_degree_59 : decode cX10_degree 59 = .ok (.bipush 7, 2) := by decide +kernel
theorem dX10_degree_61 : decode cX10_degree 61 = .ok (.ireturn, 1) := by decide +kernel
theorem dX10_degree_62 : decode cX10_degree 62 = .ok (.aload_n 0, 1) := by decide +kernel
theorem dX10_degree_63 : decode cX10_degree 63 = .ok (.getfield 113, 3) := by decide +kernel
theorem dX10_degree_66 : decode cX10_degree 66 = .ok (.ifCond .eq 8, 3) := by decide +kernel
theorem dX10_degree_69 : decode cX10_degree 69 = .ok (.bipush 8, 2) := by decide +kernel
theorem dX10_degree_71 : decode cX10_degree 71 = .ok (.goto 5, 3) := by decide +kernel
theorem dX10_degree_74 : decode cX10_degree 74 = .ok (.bipush 9, 2) := by decide +kernel
theorem dX10_degree_76 : decode cX10_degree 76 = .ok (.ireturn, 1) := by decide +kernel
theorem dX10_degree_77 : decode cX10_degree 77 = .ok (.aload_n 0, 1) := by decide +kernel
theorem dX10_degree_78 : decode cX10_degree 78 = .ok (.getfield 113, 3) := by decide +kernel
theorem dX10_degree_81 : decode cX10_degree 81 = .ok (.ifCond .eq 8, 3) := by decide +kernel
theorem dX10_degree_84 : decode cX10_degree 84 = .ok (.bipush 10, 2) := by decide +kernel
theorem dX10_degree_86 : decode cX10_degree 86 = .ok (.goto 5, 3) := by decide +kernel
theorem dX10_degree_89 : decode cX10_degree 89 = .ok (.bipush 11, 2) := by decide +kernel
theorem dX10_degree_91 : decode cX10_degree 91 = .ok (.ireturn, 1) := by decide +kernel
theorem dX10_readSymbols_0 : decode cX10_readSymbols 0 = .ok (.bipush 10, 2) := by decide +kernel
theorem dX10_readSymbols_2 : decode cX10_readSymbols 2 = .ok (.istore_n 1, 1) := by decide +kernel
theorem dX10_readSymbols_3 : decode cX10_readSymbols 3 = .ok (.iload_n 1, 1) := by decide +kernel
theorem dX10_readSymbols_4 : decode cX10_readSymbols 4 = .ok (.bipush 80, 2) := by decide +kernel
theorem dX10_readSymbols_6 : decode cX10_readSymbols 6 = .ok (.if_icmp .ge 164, 3) := by decide +kernel
theorem dX10_readSymbols_9 : decode cX10_readSymbols 9 = .ok (.iconst 0, 1) := by decide +kernel
theorem dX10_readSymbols_10 : decode cX10_readSymbols 10 = .ok (.istore_n 2, 1) := by decide +kernel
theorem dX10_readSymbols_11 : decode cX10_readSymbols 11 = .ok (.iload_n 2, 1) := by decide +kernel
theorem dX10_readSymbols_12 : decode cX10_readSymbols 12 = .ok (.aload_n 0, 1) := by decide +kernel
theorem dX10_readSymbols_13 : decode cX10_readSymbols 13 = .ok (.getfield 192, 3) := by decide +kernel
theorem dX10_readSymbols_16 : decode cX10_readSymbols 16 = .ok (.if_icmp .ge 148, 3) := by decide +kernel
theorem dX10_readSymbols_19 : decode cX10_readSymbols 19 = .ok (.aload_n 0, 1) := by decide +kernel
theorem dX10_readSymbols_20 : decode cX10_readSymbols 20 = .ok (.getfield 110, 3) := by decide +kernel
theorem dX10_readSymbols_23 : decode cX10_readSymbols 23 = .ok (.aload_n 0, 1) := by decide +kernel
theorem dX10_readSymbols_24 : decode cX10_readSymbols 24 = .ok (.iload_n 1, 1) := by decide +kernel
theorem dX10_readSymbols_25 : decode cX10_readSymbols 25 = .ok (.bipush 10, 2) := by decide +kernel
theorem dX10_readSymbols_27 : decode cX10_readSymbols 27 = .ok (.idiv, 1) := by decide +kernel
theorem dX10_readSymbols_28 : decode cX10_readSymbols 28 = .ok (.invokevirtual 195, 3) := by decide +kernel
theorem dX10_readSymbols_31 : decode cX10_readSymbols 31 = .ok (.iadd, 1) := by decide +kernel
theorem dX10_readSymbols_32 : decode cX10_readSymbols 32 = .ok (.bipush 12, 2) := by decide +kernel
theorem dX10_readSymbols_34 : decode cX10_readSymbols 34 = .ok (.irem, 1) := by decide +kernel
theorem dX10_readSymbols_35 : decode cX10_readSymbols 35 = .ok (.istore_n 3, 1) := by decide +kernel
theorem dX10_readSymbols_36 : decode cX10_readSymbols 36 = .ok (.bipush 24, 2) := by decide +kernel
theorem dX10_readSymbols_38 : decode cX10_readSymbols 38 = .ok (.iload_n 1, 1) := by decide +kernel
theorem dX10_readSymbols_39 : decode cX10_readSymbols 39 = .ok (.imul, 1) := by decide +kernel
theorem dX10_readSymbols_40 : decode cX10_readSymbols 40 = .ok (.iload_n 2, 1) := by decide +kernel
theorem dX10_readSymbols_41 : decode cX10_readSymbols 41 = .ok (.iadd, 1) := by decide +kernel
theorem dX10_readSymbols_42 : decode cX10_readSymbols 42 = .ok (.istore 4, 2) := by decide +kernel
theorem dX10_readSymbols_44 : decode cX10_readSymbols 44 = .ok (.aload_n 0, 1) := by decide +kernel
theorem dX10_readSymbols_45 : decode cX10_readSymbols 45 = .ok (.getfield 71, 3) := by decide +kernel
theorem dX10_readSymbols_48 : decode cX10_readSymbols 48 = .ok (.iload 4, 2) := by decide +kernel
theorem dX10_readSymbols_50 : decode cX10_readSymbols 50 = .ok (.iconst (-1), 1) := by decide +kernel
theorem dX10_readSymbols_51 : decode cX10_readSymbols 51 = .ok (.iastore, 1) := by decide +kernel
theorem dX10_readSymbols_52 : decode cX10_readSymbols 52 = .ok (.aload_n 0, 1) := by decide +kernel
theorem dX10_readSymbols_53 : decode cX10_readSymbols 53 = .ok (.getfield 74, 3) := by decide +kernel
theorem dX10_readSymbols_56 : decode cX10_readSymbols 56 = .ok (.iload 4, 2) := by decide +kernel
theorem dX10_readSymbols_58 : decode cX10_readSymbols 58 = .ok (.iconst 0, 1) := by decide +kernel
theorem dX10_readSymbols_59 : decode cX10_readSymbols 59 = .ok (.iastore, 1) := by decide +kernel
theorem dX10_readSymbols_60 : decode cX10_readSymbols 60 = .ok (.iconst 0, 1) := by decide +kernel
theorem dX10_readSymbols_61 : decode cX10_readSymbols 61 = .ok (.istore 5, 2) := by decide +kernel
theorem dX10_readSymbols_63 : decode cX10_readSymbols 63 = .ok (.iload 5, 2) := by decide +kernel
theorem dX10_readSymbols_65 : decode cX10_readSymbols 65 = .ok (.bipush 9, 2) := by decide +kernel
theorem dX10_readSymbols_67 : decode cX10_readSymbols 67 = .ok (.if_icmp .ge 91, 3) := by decide +kernel
theorem dX10_readSymbols_70 : decode cX10_readSymbols 70 = .ok (.iload_n 1, 1) := by decide +kernel
theorem dX10_readSymbols_71 : decode cX10_readSymbols 71 = .ok (.bipush 10, 2) := by decide +kernel
theorem dX10_readSymbols_73 : decode cX10_readSymbols 73 = .ok (.irem, 1) := by decide +kernel
theorem dX10_readSymbols_74 : decode cX10_readSymbols 74 = .ok (.ifCond .eq 14, 3) := by decide +kernel
theorem dX10_readSymbols_77 : decode cX10_readSymbols 77 = .ok (.iload_n 1, 1) := by decide +kernel
theorem dX10_readSymbols_78 : decode cX10_readSymbols 78 = .ok (.bipush 10, 2) := by decide +kernel
theorem dX10_readSymbols_80 : decode cX10_readSymbols 80 = .ok (.irem, 1) := by decide +kernel
theorem dX10_readSymbols_81 : decode cX10_readSymbols 81 = .ok (.iload 5, 2) := by decide +kernel
theorem dX10_readSymbols_83 : decode cX10_readSymbols 83 = .ok (.iconst 1, 1) := by decide +kernel
theorem dX10_readSymbols_84 : decode cX10_readSymbols 84 = .ok (.iadd, 1) := by decide +kernel
theorem dX10_readSymbols_85 : decode cX10_readSymbols 85 = .ok (.if_icmp .ne 14, 3) := by decide +kernel
theorem dX10_readSymbols_88 : decode cX10_readSymbols 88 = .ok (.aload_n 0, 1) := by decide +kernel
theorem dX10_readSymbols_89 : decode cX10_readSymbols 89 = .ok (.iload_n 2, 1) := by decide +kernel
theorem dX10_readSymbols_90 : decode cX10_readSymbols 90 = .ok (.iload_n 3, 1) := by decide +kernel
theorem dX10_readSymbols_91 : decode cX10_readSymbols 91 = .ok (.iload 5, 2) := by decide +kernel
theorem dX10_readSymbols_93 : decode cX10_readSymbols 93 = .ok (.invokevirtual 188, 3) := by decide +kernel
theorem dX10_readSymbols_96 : decode cX10_readSymbols 96 = .ok (.goto 4, 3) := by decide +kernel
theorem dX10_readSymbols_99 : decode cX10_readSymbols 99 = .ok (.iconst (-1), 1) := by decide +kernel
theorem dX10_readSymbols_100 : decode cX10_readSymbols 100 = .ok (.istore 6, 2) := by decide +kernel
theorem dX10_readSymbols_102 : decode cX10_readSymbols 102 = .ok (.iload 6, 2) := by decide +kernel
theorem dX10_readSymbols_104 : decode cX10_readSymbols 104 = .ok (.ifCond .lt 48, 3) := by decide +kernel
theorem dX10_readSymbols_107 : decode cX10_readSymbols 107 = .ok (.aload_n 0, 1) := by decide +kernel
theorem dX10_readSymbols_108 : decode cX10_readSymbols 108 = .ok (.getfield 71, 3) := by decide +kernel
theorem dX10_readSymbols_111 : decode cX10_readSymbols 111 = .ok (.iload 4, 2) := by decide +kernel
theorem dX10_readSymbols_113 : decode cX10_readSymbols 113 = .ok (.iaload, 1) := by decide +kernel
theorem dX10_readSymbols_114 : decode cX10_readSymbols 114 = .ok (.ifCond .lt 15, 3) := by decide +kernel
theorem dX10_readSymbols_117 : decode cX10_readSymbols 117 = .ok (.iload 6, 2) := by decide +kernel
theorem dX10_readSymbols_119 : decode cX10_readSymbols 119 = .ok (.aload_n 0, 1) := by decide +kernel
theorem dX10_readSymbols_120 : decode cX10_readSymbols 120 = .ok (.getfield 74, 3) := by decide +kernel
theorem dX10_readSymbols_123 : decode cX10_readSymbols 123 = .ok (.iload 4, 2) := by decide +kernel
theorem dX10_readSymbols_125 : decode cX10_readSymbols 125 = .ok (.iaload, 1) := by decide +kernel
theorem dX10_readSymbols_126 : decode cX10_readSymbols 126 = .ok (.if_icmp .ge 26, 3) := by decide +kernel
theorem dX10_readSymbols_129 : decode cX10_readSymbols 129 = .ok (.aload_n 0, 1) := by decide +kernel
theorem dX10_readSymbols_130 : decode cX10_readSymbols 130 = .ok (.getfield 71, 3) := by decide +kernel
theorem dX10_readSymbols_133 : decode cX10_readSymbols 133 = .ok (.iload 4, 2) := by decide +kernel
theorem dX10_readSymbols_135 : decode cX10_readSymbols 135 = .ok (.bipush 12, 2) := by decide +kernel
theorem dX10_readSymbols_137 : decode cX10_readSymbols 137 = .ok (.iload 5, 2) := by decide +kernel
theorem dX10_readSymbols_139 : decode cX10_readSymbols 139 = .ok (.imul, 1) := by decide +kernel
theorem dX10_readSymbols_140 : decode cX10_readSymbols 140 = .ok (.iload_n 3, 1) := by decide +kernel
theorem dX10_readSymbols_141 : decode cX10_readSymbols 141 = .ok (.iadd, 1) := by decide +kernel
theorem dX10_readSymbols_142 : decode cX10_readSymbols 142 = .ok (.iastore, 1) := by decide +kernel
theorem dX10_readSymbols_143 : decode cX10_readSymbols 143 = .ok (.aload_n 0, 1) := by decide +kernel
theorem dX10_readSymbols_144 : decode cX10_readSymbols 144 = .ok (.getfield 74, 3) := by decide +kernel
theorem dX10_readSymbols_147 : decode cX10_readSymbols 147 = .ok (.iload 4, 2) := by decide +kernel
theorem dX10_readSymbols_149 : decode cX10_readSymbols 149 = .ok (.iload 6, 2) := by decide +kernel
theorem dX10_readSymbols_151 : decode cX10_readSymbols 151 = .ok (.iastore, 1) := by decide +kernel
theorem dX10_readSymbols_152 : decode cX10_readSymbols 152 = .ok (.iinc 5 1, 3) := by decide +kernel
theorem dX10_readSymbols_155 : decode cX10_readSymbols 155 = .ok (.goto (-92), 3) := by decide +kernel
theorem dX10_readSymbols_158 : decode cX10_readSymbols 158 = .ok (.iinc 2 1, 3) := by decide +kernel
theorem dX10_readSymbols_161 : decode cX10_readSymbols 161 = .ok (.goto (-150), 3) := by decide +kernel
theorem dX10_readSymbols_164 : decode cX10_readSymbols 164 = .ok (.iinc 1 1, 3) := by decide +kernel
theorem dX10_readSymbols_167 : decode cX10_readSymbols 167 = .ok (.goto (-164), 3) := by decide +kernel
theorem dX10_readSymbols_170 : decode cX10_readSymbols 170 = .ok (.return_, 1) := by decide +kernel
theorem dX10_cellOf_0 : decode cX10_cellOf 0 = .ok (.sipush 300, 3) := by decide +kernel
theorem dX10_cellOf_3 : decode cX10_cellOf 3 = .ok (.iload_n 0, 1) := by decide +kernel
theorem dX10_cellOf_4 : decode cX10_cellOf 4 = .ok (.imul, 1) := by decide +kernel
theorem dX10_cellOf_5 : decode cX10_cellOf 5 = .ok (.iload_n 2, 1) := by decide +kernel
theorem dX10_cellOf_6 : decode cX10_cellOf 6 = .ok (.iload_n 2, 1) := by decide +kernel
theorem dX10_cellOf_7 : decode cX10_cellOf 7 = .ok (.iconst 1, 1) := by decide +kernel
theorem dX10_cellOf_8 : decode cX10_cellOf 8 = .ok (.iadd, 1) := by decide +kernel
theorem dX10_cellOf_9 : decode cX10_cellOf 9 = .ok (.imul, 1) := by decide +kernel
theorem dX10_cellOf_10 : decode cX10_cellOf 10 = .ok (.iconst 2, 1) := by decide +kernel
theorem dX10_cellOf_11 : decode cX10_cellOf 11 = .ok (.idiv, 1) := by decide +kernel
theorem dX10_cellOf_12 : decode cX10_cellOf 12 = .ok (.iadd, 1) := by decide +kernel
theorem dX10_cellOf_13 : decode cX10_cellOf 13 = .ok (.iload_n 1, 1) := by decide +kernel
theorem dX10_cellOf_14 : decode cX10_cellOf 14 = .ok (.iadd, 1) := by decide +kernel
theorem dX10_cellOf_15 : decode cX10_cellOf 15 = .ok (.ireturn, 1) := by decide +kernel
theorem dX10_itemSize_0 : decode cX10_itemSize 0 = .ok (.iload_n 1, 1) := by decide +kernel
theorem dX10_itemSize_1 : decode cX10_itemSize 1 = .ok (.bipush 100, 2) := by decide +kernel
theorem dX10_itemSize_3 : decode cX10_itemSize 3 = .ok (.if_icmp .ge 15, 3) := by decide +kernel
theorem dX10_itemSize_6 : decode cX10_itemSize 6 = .ok (.aload_n 0, 1) := by decide +kernel
theorem dX10_itemSize_7 : decode cX10_itemSize 7 = .ok (.getfield 77, 3) := by decide +kernel
theorem dX10_itemSize_10 : decode cX10_itemSize 10 = .ok (.iload_n 1, 1) := by decide +kernel
theorem dX10_itemSize_11 : decode cX10_itemSize 11 = .ok (.iload_n 2, 1) := by decide +kernel
theorem dX10_itemSize_12 : decode cX10_itemSize 12 = .ok (.iload_n 3, 1) := by decide +kernel
theorem dX10_itemSize_13 : decode cX10_itemSize 13 = .ok (.invokestatic 198, 3) := by decide +kernel
theorem dX10_itemSize_16 : decode cX10_itemSize 16 = .ok (.iaload, 1) := by decide +kernel
theorem dX10_itemSize_17 : decode cX10_itemSize 17 = .ok (.ireturn, 1) := by decide +kernel
theorem dX10_itemSize_18 : decode cX10_itemSize 18 = .ok (.iload_n 2, 1) := by decide +kernel
theorem dX10_itemSize_19 : decode cX10_itemSize 19 = .ok (.iload_n 3, 1) := by decide +kernel
theorem dX10_itemSize_20 : decode cX10_itemSize 20 = .ok (.if_icmp .ne 24, 3) := by decide +kernel
theorem dX10_itemSize_23 : decode cX10_itemSize 23 = .ok (.aload_n 0, 1) := by decide +kernel
theorem dX10_itemSize_24 : decode cX10_itemSize 24 = .ok (.getfield 71, 3) := by decide +kernel
theorem dX10_itemSize_27 : decode cX10_itemSize 27 = .ok (.bipush 24, 2) := by decide +kernel
theorem dX10_itemSize_29 : decode cX10_itemSize 29 = .ok (.iload_n 1, 1) := by decide +kernel
theorem dX10_itemSize_30 : decode cX10_itemSize 30 = .ok (.bipush 100, 2) := by decide +kernel
theorem dX10_itemSize_32 : decode cX10_itemSize 32 = .ok (.isub, 1) := by decide +kernel
theorem dX10_itemSize_33 : decode cX10_itemSize 33 = .ok (.imul, 1) := by decide +kernel
theorem dX10_itemSize_34 : decode cX10_itemSize 34 = .ok (.iload_n 2, 1) := by decide +kernel
theorem dX10_itemSize_35 : decode cX10_itemSize 35 = .ok (.iadd, 1) := by decide +kernel
theorem dX10_itemSize_36 : decode cX10_itemSize 36 = .ok (.iaload, 1) := by decide +kernel
theorem dX10_itemSize_37 : decode cX10_itemSize 37 = .ok (.ifCond .lt 7, 3) := by decide +kernel
theorem dX10_itemSize_40 : decode cX10_itemSize 40 = .ok (.iconst 1, 1) := by decide +kernel
theorem dX10_itemSize_41 : decode cX10_itemSize 41 = .ok (.goto 4, 3) := by decide +kernel
theorem dX10_itemSize_44 : decode cX10_itemSize 44 = .ok (.iconst 0, 1) := by decide +kernel
theorem dX10_itemSize_45 : decode cX10_itemSize 45 = .ok (.ireturn, 1) := by decide +kernel
theorem dX10_itemCount_0 : decode cX10_itemCount 0 = .ok (.iload_n 1, 1) := by decide +kernel
theorem dX10_itemCount_1 : decode cX10_itemCount 1 = .ok (.bipush 100, 2) := by decide +kernel
theorem dX10_itemCount_3 : decode cX10_itemCount 3 = .ok (.if_icmp .ge 17, 3) := by decide +kernel
theorem dX10_itemCount_6 : decode cX10_itemCount 6 = .ok (.aload_n 0, 1) := by decide +kernel
theorem dX10_itemCount_7 : decode cX10_itemCount 7 = .ok (.getfield 80, 3) := by decide +kernel
theorem dX10_itemCount_10 : decode cX10_itemCount 10 = .ok (.iload_n 1, 1) := by decide +kernel
theorem dX10_itemCount_11 : decode cX10_itemCount 11 = .ok (.iload_n 2, 1) := by decide +kernel
theorem dX10_itemCount_12 : decode cX10_itemCount 12 = .ok (.iload_n 3, 1) := by decide +kernel
theorem dX10_itemCount_13 : decode cX10_itemCount 13 = .ok (.invokestatic 198, 3) := by decide +kernel
theorem dX10_itemCount_16 : decode cX10_itemCount 16 = .ok (.laload, 1) := by decide +kernel
theorem dX10_itemCount_17 : decode cX10_itemCount 17 = .ok (.goto 11, 3) := by decide +kernel
theorem dX10_itemCount_20 : decode cX10_itemCount 20 = .ok (.aload_n 0, 1) := by decide +kernel
theorem dX10_itemCount_21 : decode cX10_itemCount 21 = .ok (.iload_n 1, 1) := by decide +kernel
theorem dX10_itemCount_22 : decode cX10_itemCount 22 = .ok (.iload_n 2, 1) := by decide +kernel
theorem dX10_itemCount_23 : decode cX10_itemCount 23 = .ok (.iload_n 3, 1) := by decide +kernel
theorem dX10_itemCount_24 : decode cX10_itemCount 24 = .ok (.invokevirtual 201, 3) := by decide +kernel
theorem dX10_itemCount_27 : decode cX10_itemCount 27 = .ok (.i2l, 1) := by decide +kernel
theorem dX10_itemCount_28 : decode cX10_itemCount 28 = .ok (.lreturn, 1) := by decide +kernel
theorem dX10_itemCost_0 : decode cX10_itemCost 0 = .ok (.iload_n 1, 1) := by decide +kernel
theorem dX10_itemCost_1 : decode cX10_itemCost 1 = .ok (.bipush 100, 2) := by decide +kernel
theorem dX10_itemCost_3 : decode cX10_itemCost 3 = .ok (.if_icmp .ge 23, 3) := by decide +kernel
theorem dX10_itemCost_6 : decode cX10_itemCost 6 = .ok (.aload_n 0, 1) := by decide +kernel
theorem dX10_itemCost_7 : decode cX10_itemCost 7 = .ok (.getfield 85, 3) := by decide +kernel
theorem dX10_itemCost_10 : decode cX10_itemCost 10 = .ok (.bipush 30, 2) := by decide +kernel
theorem dX10_itemCost_12 : decode cX10_itemCost 12 = .ok (.iload_n 1, 1) := by decide +kernel
theorem dX10_itemCost_13 : decode cX10_itemCost 13 = .ok (.iload_n 2, 1) := by decide +kernel
theorem dX10_itemCost_14 : decode cX10_itemCost 14 = .ok (.iload_n 3, 1) := by decide +kernel
theorem dX10_itemCost_15 : decode cX10_itemCost 15 = .ok (.invokestatic 198, 3) := by decide +kernel
theorem dX10_itemCost_18 : decode cX10_itemCost 18 = .ok (.imul, 1) := by decide +kernel
theorem dX10_itemCost_19 : decode cX10_itemCost 19 = .ok (.iload 4, 2) := by decide +kernel
theorem dX10_itemCost_21 : decode cX10_itemCost 21 = .ok (.iadd, 1) := by decide +kernel
theorem dX10_itemCost_22 : decode cX10_itemCost 22 = .ok (.iaload, 1) := by decide +kernel
theorem dX10_itemCost_23 : decode cX10_itemCost 23 = .ok (.goto 17, 3) := by decide +kernel
theorem dX10_itemCost_26 : decode cX10_itemCost 26 = .ok (.aload_n 0, 1) := by decide +kernel
theorem dX10_itemCost_27 : decode cX10_itemCost 27 = .ok (.getfield 74, 3) := by decide +kernel
theorem dX10_itemCost_30 : decode cX10_itemCost 30 = .ok (.bipush 24, 2) := by decide +kernel
theorem dX10_itemCost_32 : decode cX10_itemCost 32 = .ok (.iload_n 1, 1) := by decide +kernel
theorem dX10_itemCost_33 : decode cX10_itemCost 33 = .ok (.bipush 100, 2) := by decide +kernel
theorem dX10_itemCost_35 : decode cX10_itemCost 35 = .ok (.isub, 1) := by decide +kernel
theorem dX10_itemCost_36 : decode cX10_itemCost 36 = .ok (.imul, 1) := by decide +kernel
theorem dX10_itemCost_37 : decode cX10_itemCost 37 = .ok (.iload_n 2, 1) := by decide +kernel
theorem dX10_itemCost_38 : decode cX10_itemCost 38 = .ok (.iadd, 1) := by decide +kernel
theorem dX10_itemCost_39 : decode cX10_itemCost 39 = .ok (.iaload, 1) := by decide +kernel
theorem dX10_itemCost_40 : decode cX10_itemCost 40 = .ok (.ireturn, 1) := by decide +kernel
theorem dX10_comes_0 : decode cX10_comes 0 = .ok (.aload_n 0, 1) := by decide +kernel
theorem dX10_comes_1 : decode cX10_comes 1 = .ok (.getfield 77, 3) := by decide +kernel
theorem dX10_comes_4 : decode cX10_comes 4 = .ok (.iload_n 1, 1) := by decide +kernel
theorem dX10_comes_5 : decode cX10_comes 5 = .ok (.iaload, 1) := by decide +kernel
theorem dX10_comes_6 : decode cX10_comes 6 = .ok (.istore 4, 2) := by decide +kernel
theorem dX10_comes_8 : decode cX10_comes 8 = .ok (.bipush 30, 2) := by decide +kernel
theorem dX10_comes_10 : decode cX10_comes 10 = .ok (.iload_n 1, 1) := by decide +kernel
theorem dX10_comes_11 : decode cX10_comes 11 = .ok (.imul, 1) := by decide +kernel
theorem dX10_comes_12 : decode cX10_comes 12 = .ok (.istore 5, 2) := by decide +kernel
theorem dX10_comes_14 : decode cX10_comes 14 = .ok (.iload 4, 2) := by decide +kernel
theorem dX10_comes_16 : decode cX10_comes 16 = .ok (.bipush 30, 2) := by decide +kernel
theorem dX10_comes_18 : decode cX10_comes 18 = .ok (.if_icmp .ne 53, 3) := by decide +kernel
theorem dX10_comes_21 : decode cX10_comes 21 = .ok (.aload_n 0, 1) := by decide +kernel
theorem dX10_comes_22 : decode cX10_comes 22 = .ok (.getfield 85, 3) := by decide +kernel
theorem dX10_comes_25 : decode cX10_comes 25 = .ok (.iload 5, 2) := by decide +kernel
theorem dX10_comes_27 : decode cX10_comes 27 = .ok (.iload 4, 2) := by decide +kernel
theorem dX10_comes_29 : decode cX10_comes 29 = .ok (.iadd, 1) := by decide +kernel
theorem dX10_comes_30 : decode cX10_comes 30 = .ok (.iconst 1, 1) := by decide +kernel
theorem dX10_comes_31 : decode cX10_comes 31 = .ok (.isub, 1) := by decide +kernel
theorem dX10_comes_32 : decode cX10_comes 32 = .ok (.iaload, 1) := by decide +kernel
theorem dX10_comes_33 : decode cX10_comes 33 = .ok (.iload_n 2, 1) := by decide +kernel
theorem dX10_comes_34 : decode cX10_comes 34 = .ok (.if_icmp .lt 35, 3) := by decide +kernel
theorem dX10_comes_37 : decode cX10_comes 37 = .ok (.aload_n 0, 1) := by decide +kernel
theorem dX10_comes_38 : decode cX10_comes 38 = .ok (.getfield 85, 3) := by decide +kernel
theorem dX10_comes_41 : decode cX10_comes 41 = .ok (.iload 5, 2) := by decide +kernel
theorem dX10_comes_43 : decode cX10_comes 43 = .ok (.iload 4, 2) := by decide +kernel
theorem dX10_comes_45 : decode cX10_comes 45 = .ok (.iadd, 1) := by decide +kernel
theorem dX10_comes_46 : decode cX10_comes 46 = .ok (.iconst 1, 1) := by decide +kernel
theorem dX10_comes_47 : decode cX10_comes 47 = .ok (.isub, 1) := by decide +kernel
theorem dX10_comes_48 : decode cX10_comes 48 = .ok (.iaload, 1) := by decide +kernel
theorem dX10_comes_49 : decode cX10_comes 49 = .ok (.iload_n 2, 1) := by decide +kernel
theorem dX10_comes_50 : decode cX10_comes 50 = .ok (.if_icmp .ne 21, 3) := by decide +kernel
theorem dX10_comes_53 : decode cX10_comes 53 = .ok (.aload_n 0, 1) := by decide +kernel
theorem dX10_comes_54 : decode cX10_comes 54 = .ok (.getfield 88, 3) := by decide +kernel
theorem dX10_comes_57 : decode cX10_comes 57 = .ok (.iload 5, 2) := by decide +kernel
theorem dX10_comes_59 : decode cX10_comes 59 = .ok (.iload 4, 2) := by decide +kernel
theorem dX10_comes_61 : decode cX10_comes 61 = .ok (.iadd, 1) := by decide +kernel
theorem dX10_comes_62 : decode cX10_comes 62 = .ok (.iconst 1, 1) := by decide +kernel
theorem dX10_comes_63 : decode cX10_comes 63 = .ok (.isub, 1) := by decide +kernel
theorem dX10_comes_64 : decode cX10_comes 64 = .ok (.iaload, 1) := by decide +kernel
theorem dX10_comes_65 : decode cX10_comes 65 = .ok (.iload_n 3, 1) := by decide +kernel
theorem dX10_comes_66 : decode cX10_comes 66 = .ok (.if_icmp .ge 5, 3) := by decide +kernel
theorem dX10_comes_69 : decode cX10_comes 69 = .ok (.iconst 0, 1) := by decide +kernel
theorem dX10_comes_70 : decode cX10_comes 70 = .ok (.ireturn, 1) := by decide +kernel
theorem dX10_comes_71 : decode cX10_comes 71 = .ok (.iload 4, 2) := by decide +kernel
theorem dX10_comes_73 : decode cX10_comes 73 = .ok (.bipush 30, 2) := by decide +kernel
theorem dX10_comes_75 : decode cX10_comes 75 = .ok (.if_icmp .ne 10, 3) := by decide +kernel
theorem dX10_comes_78 : decode cX10_comes 78 = .ok (.iload 4, 2) := by decide +kernel
theorem dX10_comes_80 : decode cX10_comes 80 = .ok (.iconst 1, 1) := by decide +kernel
theorem dX10_comes_81 : decode cX10_comes 81 = .ok (.isub, 1) := by decide +kernel
theorem dX10_comes_82 : decode cX10_comes 82 = .ok (.goto 5, 3) := by decide +kernel
theorem dX10_comes_85 : decode cX10_comes 85 = .ok (.iload 4, 2) := by decide +kernel
theorem dX10_comes_87 : decode cX10_comes 87 = .ok (.istore 6, 2) := by decide +kernel
theorem dX10_comes_89 : decode cX10_comes 89 = .ok (.iload 6, 2) := by decide +kernel
theorem dX10_comes_91 : decode cX10_comes 91 = .ok (.ifCond .le 101, 3) := by decide +kernel
theorem dX10_comes_94 : decode cX10_comes 94 = .ok (.aload_n 0, 1) := by decide +kernel
theorem dX10_comes_95 : decode cX10_comes 95 = .ok (.getfield 85, 3) := by decide +kernel
theorem dX10_comes_98 : decode cX10_comes 98 = .ok (.iload 5, 2) := by decide +kernel
theorem dX10_comes_100 : decode cX10_comes 100 = .ok (.iload 6, 2) := by decide +kernel
theorem dX10_comes_102 : decode cX10_comes 102 = .ok (.iadd, 1) := by decide +kernel
theorem dX10_comes_103 : decode cX10_comes 103 = .ok (.iconst 1, 1) := by decide +kernel
theorem dX10_comes_104 : decode cX10_comes 104 = .ok (.isub, 1) := by decide +kernel
theorem dX10_comes_105 : decode cX10_comes 105 = .ok (.iaload, 1) := by decide +kernel
theorem dX10_comes_106 : decode cX10_comes 106 = .ok (.iload_n 2, 1) := by decide +kernel
theorem dX10_comes_107 : decode cX10_comes 107 = .ok (.if_icmp .gt 35, 3) := by decide +kernel
theorem dX10_comes_110 : decode cX10_comes 110 = .ok (.aload_n 0, 1) := by decide +kernel
theorem dX10_comes_111 : decode cX10_comes 111 = .ok (.getfield 85, 3) := by decide +kernel
theorem dX10_comes_114 : decode cX10_comes 114 = .ok (.iload 5, 2) := by decide +kernel
theorem dX10_comes_116 : decode cX10_comes 116 = .ok (.iload 6, 2) := by decide +kernel
theorem dX10_comes_118 : decode cX10_comes 118 = .ok (.iadd, 1) := by decide +kernel
theorem dX10_comes_119 : decode cX10_comes 119 = .ok (.iconst 1, 1) := by decide +kernel
theorem dX10_comes_120 : decode cX10_comes 120 = .ok (.isub, 1) := by decide +kernel
theorem dX10_comes_121 : decode cX10_comes 121 = .ok (.iaload, 1) := by decide +kernel
theorem dX10_comes_122 : decode cX10_comes 122 = .ok (.iload_n 2, 1) := by decide +kernel
theorem dX10_comes_123 : decode cX10_comes 123 = .ok (.if_icmp .ne 69, 3) := by decide +kernel
theorem dX10_comes_126 : decode cX10_comes 126 = .ok (.aload_n 0, 1) := by decide +kernel
theorem dX10_comes_127 : decode cX10_comes 127 = .ok (.getfield 88, 3) := by decide +kernel
theorem dX10_comes_130 : decode cX10_comes 130 = .ok (.iload 5, 2) := by decide +kernel
theorem dX10_comes_132 : decode cX10_comes 132 = .ok (.iload 6, 2) := by decide +kernel
theorem dX10_comes_134 : decode cX10_comes 134 = .ok (.iadd, 1) := by decide +kernel
theorem dX10_comes_135 : decode cX10_comes 135 = .ok (.iconst 1, 1) := by decide +kernel
theorem dX10_comes_136 : decode cX10_comes 136 = .ok (.isub, 1) := by decide +kernel
theorem dX10_comes_137 : decode cX10_comes 137 = .ok (.iaload, 1) := by decide +kernel
theorem dX10_comes_138 : decode cX10_comes 138 = .ok (.iload_n 3, 1) := by decide +kernel
theorem dX10_comes_139 : decode cX10_comes 139 = .ok (.if_icmp .le 53, 3) := by decide +kernel
theorem dX10_comes_142 : decode cX10_comes 142 = .ok (.aload_n 0, 1) := by decide +kernel
theorem dX10_comes_143 : decode cX10_comes 143 = .ok (.getfield 85, 3) := by decide +kernel
theorem dX10_comes_146 : decode cX10_comes 146 = .ok (.iload 5, 2) := by decide +kernel
theorem dX10_comes_148 : decode cX10_comes 148 = .ok (.iload 6, 2) := by decide +kernel
theorem dX10_comes_150 : decode cX10_comes 150 = .ok (.iadd, 1) := by decide +kernel
theorem dX10_comes_151 : decode cX10_comes 151 = .ok (.aload_n 0, 1) := by decide +kernel
theorem dX10_comes_152 : decode cX10_comes 152 = .ok (.getfield 85, 3) := by decide +kernel
theorem dX10_comes_155 : decode cX10_comes 155 = .ok (.iload 5, 2) := by decide +kernel
theorem dX10_comes_157 : decode cX10_comes 157 = .ok (.iload 6, 2) := by decide +kernel
theorem dX10_comes_159 : decode cX10_comes 159 = .ok (.iadd, 1) := by decide +kernel
theorem dX10_comes_160 : decode cX10_comes 160 = .ok (.iconst 1, 1) := by decide +kernel
theorem dX10_comes_161 : decode cX10_comes 161 = .ok (.isub, 1) := by decide +kernel
theorem dX10_comes_162 : decode cX10_comes 162 = .ok (.iaload, 1) := by decide +kernel
theorem dX10_comes_163 : decode cX10_comes 163 = .ok (.iastore, 1) := by decide +kernel
theorem dX10_comes_164 : decode cX10_comes 164 = .ok (.aload_n 0, 1) := by decide +kernel
theorem dX10_comes_165 : decode cX10_comes 165 = .ok (.getfield 88, 3) := by decide +kernel
theorem dX10_comes_168 : decode cX10_comes 168 = .ok (.iload 5, 2) := by decide +kernel
theorem dX10_comes_170 : decode cX10_comes 170 = .ok (.iload 6, 2) := by decide +kernel
theorem dX10_comes_172 : decode cX10_comes 172 = .ok (.iadd, 1) := by decide +kernel
theorem dX10_comes_173 : decode cX10_comes 173 = .ok (.aload_n 0, 1) := by decide +kernel
theorem dX10_comes_174 : decode cX10_comes 174 = .ok (.getfield 88, 3) := by decide +kernel
theorem dX10_comes_177 : decode cX10_comes 177 = .ok (.iload 5, 2) := by decide +kernel
theorem dX10_comes_179 : decode cX10_comes 179 = .ok (.iload 6, 2) := by decide +kernel
theorem dX10_comes_181 : decode cX10_comes 181 = .ok (.iadd, 1) := by decide +kernel
theorem dX10_comes_182 : decode cX10_comes 182 = .ok (.iconst 1, 1) := by decide +kernel
theorem dX10_comes_183 : decode cX10_comes 183 = .ok (.isub, 1) := by decide +kernel
theorem dX10_comes_184 : decode cX10_comes 184 = .ok (.iaload, 1) := by decide +kernel
theorem dX10_comes_185 : decode cX10_comes 185 = .ok (.iastore, 1) := by decide +kernel
theorem dX10_comes_186 : decode cX10_comes 186 = .ok (.iinc 6 (-1), 3) := by decide +kernel
theorem dX10_comes_189 : decode cX10_comes 189 = .ok (.goto (-100), 3) := by decide +kernel
theorem dX10_comes_192 : decode cX10_comes 192 = .ok (.aload_n 0, 1) := by decide +kernel
theorem dX10_comes_193 : decode cX10_comes 193 = .ok (.getfield 85, 3) := by decide +kernel
theorem dX10_comes_196 : decode cX10_comes 196 = .ok (.iload 5, 2) := by decide +kernel
theorem dX10_comes_198 : decode cX10_comes 198 = .ok (.iload 6, 2) := by decide +kernel
theorem dX10_comes_200 : decode cX10_comes 200 = .ok (.iadd, 1) := by decide +kernel
theorem dX10_comes_201 : decode cX10_comes 201 = .ok (.iload_n 2, 1) := by decide +kernel
theorem dX10_comes_202 : decode cX10_comes 202 = .ok (.iastore, 1) := by decide +kernel
theorem dX10_comes_203 : decode cX10_comes 203 = .ok (.aload_n 0, 1) := by decide +kernel
theorem dX10_comes_204 : decode cX10_comes 204 = .ok (.getfield 88, 3) := by decide +kernel
theorem dX10_comes_207 : decode cX10_comes 207 = .ok (.iload 5, 2) := by decide +kernel
theorem dX10_comes_209 : decode cX10_comes 209 = .ok (.iload 6, 2) := by decide +kernel
theorem dX10_comes_211 : decode cX10_comes 211 = .ok (.iadd, 1) := by decide +kernel
theorem dX10_comes_212 : decode cX10_comes 212 = .ok (.iload_n 3, 1) := by decide +kernel
theorem dX10_comes_213 : decode cX10_comes 213 = .ok (.iastore, 1) := by decide +kernel
theorem dX10_comes_214 : decode cX10_comes 214 = .ok (.aload_n 0, 1) := by decide +kernel
theorem dX10_comes_215 : decode cX10_comes 215 = .ok (.getfield 77, 3) := by decide +kernel
theorem dX10_comes_218 : decode cX10_comes 218 = .ok (.iload_n 1, 1) := by decide +kernel
theorem dX10_comes_219 : decode cX10_comes 219 = .ok (.iload 4, 2) := by decide +kernel
theorem dX10_comes_221 : decode cX10_comes 221 = .ok (.bipush 30, 2) := by decide +kernel
theorem dX10_comes_223 : decode cX10_comes 223 = .ok (.if_icmp .ne 8, 3) := by decide +kernel
theorem dX10_comes_226 : decode cX10_comes 226 = .ok (.iload 4, 2) := by decide +kernel
theorem dX10_comes_228 : decode cX10_comes 228 = .ok (.goto 7, 3) := by decide +kernel
theorem dX10_comes_231 : decode cX10_comes 231 = .ok (.iload 4, 2) := by decide +kernel
theorem dX10_comes_233 : decode cX10_comes 233 = .ok (.iconst 1, 1) := by decide +kernel
theorem dX10_comes_234 : decode cX10_comes 234 = .ok (.iadd, 1) := by decide +kernel
theorem dX10_comes_235 : decode cX10_comes 235 = .ok (.iastore, 1) := by decide +kernel
theorem dX10_comes_236 : decode cX10_comes 236 = .ok (.iconst 1, 1) := by decide +kernel
theorem dX10_comes_237 : decode cX10_comes 237 = .ok (.ireturn, 1) := by decide +kernel
theorem dX10_one_0 : decode cX10_one 0 = .ok (.aload_n 0, 1) := by decide +kernel
theorem dX10_one_1 : decode cX10_one 1 = .ok (.aload_n 0, 1) := by decide +kernel
theorem dX10_one_2 : decode cX10_one 2 = .ok (.getfield 59, 3) := by decide +kernel
theorem dX10_one_5 : decode cX10_one 5 = .ok (.iload_n 2, 1) := by decide +kernel
theorem dX10_one_6 : decode cX10_one 6 = .ok (.iaload, 1) := by decide +kernel
theorem dX10_one_7 : decode cX10_one 7 = .ok (.iload_n 3, 1) := by decide +kernel
theorem dX10_one_8 : decode cX10_one 8 = .ok (.iload 4, 2) := by decide +kernel
theorem dX10_one_10 : decode cX10_one 10 = .ok (.invokevirtual 201, 3) := by decide +kernel
theorem dX10_one_13 : decode cX10_one 13 = .ok (.istore 5, 2) := by decide +kernel
theorem dX10_one_15 : decode cX10_one 15 = .ok (.aload_n 0, 1) := by decide +kernel
theorem dX10_one_16 : decode cX10_one 16 = .ok (.getfield 80, 3) := by decide +kernel
theorem dX10_one_19 : decode cX10_one 19 = .ok (.iload_n 1, 1) := by decide +kernel
theorem dX10_one_20 : decode cX10_one 20 = .ok (.dup2, 1) := by decide +kernel
theorem dX10_one_21 : decode cX10_one 21 = .ok (.laload, 1) := by decide +kernel
theorem dX10_one_22 : decode cX10_one 22 = .ok (.aload_n 0, 1) := by decide +kernel
theorem dX10_one_23 : decode cX10_one 23 = .ok (.aload_n 0, 1) := by decide +kernel
theorem dX10_one_24 : decode cX10_one 24 = .ok (.getfield 59, 3) := by decide +kernel
theorem dX10_one_27 : decode cX10_one 27 = .ok (.iload_n 2, 1) := by decide +kernel
theorem dX10_one_28 : decode cX10_one 28 = .ok (.iaload, 1) := by decide +kernel
theorem dX10_one_29 : decode cX10_one 29 = .ok (.iload_n 3, 1) := by decide +kernel
theorem dX10_one_30 : decode cX10_one 30 = .ok (.iload 4, 2) := by decide +kernel
theorem dX10_one_32 : decode cX10_one 32 = .ok (.invokevirtual 204, 3) := by decide +kernel
theorem dX10_one_35 : decode cX10_one 35 = .ok (.ladd, 1) := by decide +kernel
theorem dX10_one_36 : decode cX10_one 36 = .ok (.lastore, 1) := by decide +kernel
theorem dX10_one_37 : decode cX10_one 37 = .ok (.iconst 0, 1) := by decide +kernel
theorem dX10_one_38 : decode cX10_one 38 = .ok (.istore 6, 2) := by decide +kernel
theorem dX10_one_40 : decode cX10_one 40 = .ok (.iload 6, 2) := by decide +kernel
theorem dX10_one_42 : decode cX10_one 42 = .ok (.iload 5, 2) := by decide +kernel
theorem dX10_one_44 : decode cX10_one 44 = .ok (.if_icmp .ge 47, 3) := by decide +kernel
theorem dX10_one_47 : decode cX10_one 47 = .ok (.aload_n 0, 1) := by decide +kernel
theorem dX10_one_48 : decode cX10_one 48 = .ok (.iload_n 1, 1) := by decide +kernel
theorem dX10_one_49 : decode cX10_one 49 = .ok (.aload_n 0, 1) := by decide +kernel
theorem dX10_one_50 : decode cX10_one 50 = .ok (.getfield 65, 3) := by decide +kernel
theorem dX10_one_53 : decode cX10_one 53 = .ok (.iload_n 2, 1) := by decide +kernel
theorem dX10_one_54 : decode cX10_one 54 = .ok (.iaload, 1) := by decide +kernel
theorem dX10_one_55 : decode cX10_one 55 = .ok (.aload_n 0, 1) := by decide +kernel
theorem dX10_one_56 : decode cX10_one 56 = .ok (.aload_n 0, 1) := by decide +kernel
theorem dX10_one_57 : decode cX10_one 57 = .ok (.getfield 59, 3) := by decide +kernel
theorem dX10_one_60 : decode cX10_one 60 = .ok (.iload_n 2, 1) := by decide +kernel
theorem dX10_one_61 : decode cX10_one 61 = .ok (.iaload, 1) := by decide +kernel
theorem dX10_one_62 : decode cX10_one 62 = .ok (.iload_n 3, 1) := by decide +kernel
theorem dX10_one_63 : decode cX10_one 63 = .ok (.iload 4, 2) := by decide +kernel
theorem dX10_one_65 : decode cX10_one 65 = .ok (.iload 6, 2) := by decide +kernel
theorem dX10_one_67 : decode cX10_one 67 = .ok (.invokevirtual 208, 3) := by decide +kernel
theorem dX10_one_70 : decode cX10_one 70 = .ok (.iadd, 1) := by decide +kernel
theorem dX10_one_71 : decode cX10_one 71 = .ok (.iload_n 2, 1) := by decide +kernel
theorem dX10_one_72 : decode cX10_one 72 = .ok (.bipush 15, 2) := by decide +kernel
theorem dX10_one_74 : decode cX10_one 74 = .ok (.ishl, 1) := by decide +kernel
theorem dX10_one_75 : decode cX10_one 75 = .ok (.iload 6, 2) := by decide +kernel
theorem dX10_one_77 : decode cX10_one 77 = .ok (.iconst 5, 1) := by decide +kernel
theorem dX10_one_78 : decode cX10_one 78 = .ok (.ishl, 1) := by decide +kernel
theorem dX10_one_79 : decode cX10_one 79 = .ok (.iadd, 1) := by decide +kernel
theorem dX10_one_80 : decode cX10_one 80 = .ok (.invokevirtual 212, 3) := by decide +kernel
theorem dX10_one_83 : decode cX10_one 83 = .ok (.istore 7, 2) := by decide +kernel
theorem dX10_one_85 : decode cX10_one 85 = .ok (.iinc 6 1, 3) := by decide +kernel
theorem dX10_one_88 : decode cX10_one 88 = .ok (.goto (-48), 3) := by decide +kernel
theorem dX10_one_91 : decode cX10_one 91 = .ok (.return_, 1) := by decide +kernel
theorem dX10_two_0 : decode cX10_two 0 = .ok (.iconst 1, 1) := by decide +kernel
theorem dX10_two_1 : decode cX10_two 1 = .ok (.istore 5, 2) := by decide +kernel
theorem dX10_two_3 : decode cX10_two 3 = .ok (.iload 5, 2) := by decide +kernel
theorem dX10_two_5 : decode cX10_two 5 = .ok (.iload 4, 2) := by decide +kernel
theorem dX10_two_7 : decode cX10_two 7 = .ok (.iload_n 3, 1) := by decide +kernel
theorem dX10_two_8 : decode cX10_two 8 = .ok (.isub, 1) := by decide +kernel
theorem dX10_two_9 : decode cX10_two 9 = .ok (.if_icmp .gt 242, 3) := by decide +kernel
theorem dX10_two_12 : decode cX10_two 12 = .ok (.aload_n 0, 1) := by decide +kernel
theorem dX10_two_13 : decode cX10_two 13 = .ok (.aload_n 0, 1) := by decide +kernel
theorem dX10_two_14 : decode cX10_two 14 = .ok (.getfield 59, 3) := by decide +kernel
theorem dX10_two_17 : decode cX10_two 17 = .ok (.iload_n 2, 1) := by decide +kernel
theorem dX10_two_18 : decode cX10_two 18 = .ok (.iaload, 1) := by decide +kernel
theorem dX10_two_19 : decode cX10_two 19 = .ok (.iload_n 3, 1) := by decide +kernel
theorem dX10_two_20 : decode cX10_two 20 = .ok (.iload_n 3, 1) := by decide +kernel
theorem dX10_two_21 : decode cX10_two 21 = .ok (.iload 5, 2) := by decide +kernel
theorem dX10_two_23 : decode cX10_two 23 = .ok (.iadd, 1) := by decide +kernel
theorem dX10_two_24 : decode cX10_two 24 = .ok (.iconst 1, 1) := by decide +kernel
theorem dX10_two_25 : decode cX10_two 25 = .ok (.isub, 1) := by decide +kernel
theorem dX10_two_26 : decode cX10_two 26 = .ok (.invokevirtual 201, 3) := by decide +kernel
theorem dX10_two_29 : decode cX10_two 29 = .ok (.istore 6, 2) := by decide +kernel
theorem dX10_two_31 : decode cX10_two 31 = .ok (.aload_n 0, 1) := by decide +kernel
theorem dX10_two_32 : decode cX10_two 32 = .ok (.aload_n 0, 1) := by decide +kernel
theorem dX10_two_33 : decode cX10_two 33 = .ok (.getfield 62, 3) := by decide +kernel
theorem dX10_two_36 : decode cX10_two 36 = .ok (.iload_n 2, 1) := by decide +kernel
theorem dX10_two_37 : decode cX10_two 37 = .ok (.iaload, 1) := by decide +kernel
theorem dX10_two_38 : decode cX10_two 38 = .ok (.iload_n 3, 1) := by decide +kernel
theorem dX10_two_39 : decode cX10_two 39 = .ok (.iload 5, 2) := by decide +kernel
theorem dX10_two_41 : decode cX10_two 41 = .ok (.iadd, 1) := by decide +kernel
theorem dX10_two_42 : decode cX10_two 42 = .ok (.iload 4, 2) := by decide +kernel
theorem dX10_two_44 : decode cX10_two 44 = .ok (.invokevirtual 201, 3) := by decide +kernel
theorem dX10_two_47 : decode cX10_two 47 = .ok (.istore 7, 2) := by decide +kernel
theorem dX10_two_49 : decode cX10_two 49 = .ok (.aload_n 0, 1) := by decide +kernel
theorem dX10_two_50 : decode cX10_two 50 = .ok (.getfield 80, 3) := by decide +kernel
theorem dX10_two_53 : decode cX10_two 53 = .ok (.iload_n 1, 1) := by decide +kernel
theorem dX10_two_54 : decode cX10_two 54 = .ok (.dup2, 1) := by decide +kernel
theorem dX10_two_55 : decode cX10_two 55 = .ok (.laload, 1) := by decide +kernel
theorem dX10_two_56 : decode cX10_two 56 = .ok (.aload_n 0, 1) := by decide +kernel
theorem dX10_two_57 : decode cX10_two 57 = .ok (.aload_n 0, 1) := by decide +kernel
theorem dX10_two_58 : decode cX10_two 58 = .ok (.getfield 59, 3) := by decide +kernel
theorem dX10_two_61 : decode cX10_two 61 = .ok (.iload_n 2, 1) := by decide +kernel
theorem dX10_two_62 : decode cX10_two 62 = .ok (.iaload, 1) := by decide +kernel
theorem dX10_two_63 : decode cX10_two 63 = .ok (.iload_n 3, 1) := by decide +kernel
theorem dX10_two_64 : decode cX10_two 64 = .ok (.iload_n 3, 1) := by decide +kernel
theorem dX10_two_65 : decode cX10_two 65 = .ok (.iload 5, 2) := by decide +kernel
theorem dX10_two_67 : decode cX10_two 67 = .ok (.iadd, 1) := by decide +kernel
theorem dX10_two_68 : decode cX10_two 68 = .ok (.iconst 1, 1) := by decide +kernel
theorem dX10_two_69 : decode cX10_two 69 = .ok (.isub, 1) := by decide +kernel
theorem dX10_two_70 : decode cX10_two 70 = .ok (.invokevirtual 204, 3) := by decide +kernel
theorem dX10_two_73 : decode cX10_two 73 = .ok (.aload_n 0, 1) := by decide +kernel
theorem dX10_two_74 : decode cX10_two 74 = .ok (.aload_n 0, 1) := by decide +kernel
theorem dX10_two_75 : decode cX10_two 75 = .ok (.getfield 62, 3) := by decide +kernel
theorem dX10_two_78 : decode cX10_two 78 = .ok (.iload_n 2, 1) := by decide +kernel
theorem dX10_two_79 : decode cX10_two 79 = .ok (.iaload, 1) := by decide +kernel
theorem dX10_two_80 : decode cX10_two 80 = .ok (.iload_n 3, 1) := by decide +kernel
theorem dX10_two_81 : decode cX10_two 81 = .ok (.iload 5, 2) := by decide +kernel
theorem dX10_two_83 : decode cX10_two 83 = .ok (.iadd, 1) := by decide +kernel
theorem dX10_two_84 : decode cX10_two 84 = .ok (.iload 4, 2) := by decide +kernel
theorem dX10_two_86 : decode cX10_two 86 = .ok (.invokevirtual 204, 3) := by decide +kernel
theorem dX10_two_89 : decode cX10_two 89 = .ok (.lmul, 1) := by decide +kernel
theorem dX10_two_90 : decode cX10_two 90 = .ok (.ladd, 1) := by decide +kernel
theorem dX10_two_91 : decode cX10_two 91 = .ok (.lastore, 1) := by decide +kernel
theorem dX10_two_92 : decode cX10_two 92 = .ok (.iconst 1, 1) := by decide +kernel
theorem dX10_two_93 : decode cX10_two 93 = .ok (.istore 8, 2) := by decide +kernel
theorem dX10_two_95 : decode cX10_two 95 = .ok (.iconst 0, 1) := by decide +kernel
theorem dX10_two_96 : decode cX10_two 96 = .ok (.istore 9, 2) := by decide +kernel
theorem dX10_two_98 : decode cX10_two 98 = .ok (.iload 9, 2) := by decide +kernel
theorem dX10_two_100 : decode cX10_two 100 = .ok (.iload 6, 2) := by decide +kernel
theorem dX10_two_102 : decode cX10_two 102 = .ok (.if_icmp .ge 143, 3) := by decide +kernel
theorem dX10_two_105 : decode cX10_two 105 = .ok (.iload 8, 2) := by decide +kernel
theorem dX10_two_107 : decode cX10_two 107 = .ok (.ifCond .eq 138, 3) := by decide +kernel
theorem dX10_two_110 : decode cX10_two 110 = .ok (.iconst 1, 1) := by decide +kernel
theorem dX10_two_111 : decode cX10_two 111 = .ok (.istore 10, 2) := by decide +kernel
theorem dX10_two_113 : decode cX10_two 113 = .ok (.iconst 0, 1) := by decide +kernel
theorem dX10_two_114 : decode cX10_two 114 = .ok (.istore 11, 2) := by decide +kernel
theorem dX10_two_116 : decode cX10_two 116 = .ok (.iload 11, 2) := by decide +kernel
theorem dX10_two_118 : decode cX10_two 118 = .ok (.iload 7, 2) := by decide +kernel
theorem dX10_two_120 : decode cX10_two 120 = .ok (.if_icmp .ge 119, 3) := by decide +kernel
theorem dX10_two_123 : decode cX10_two 123 = .ok (.iload 10, 2) := by decide +kernel
theorem dX10_two_125 : decode cX10_two 125 = .ok (.ifCond .eq 114, 3) := by decide +kernel
theorem dX10_two_128 : decode cX10_two 128 = .ok (.iload 9, 2) := by decide +kernel
theorem dX10_two_130 : decode cX10_two 130 = .ok (.iconst 1, 1) := by decide +kernel
theorem dX10_two_131 : decode cX10_two 131 = .ok (.iadd, 1) := by decide +kernel
theorem dX10_two_132 : decode cX10_two 132 = .ok (.iload 11, 2) := by decide +kernel
theorem dX10_two_134 : decode cX10_two 134 = .ok (.iconst 1, 1) := by decide +kernel
theorem dX10_two_135 : decode cX10_two 135 = .ok (.iadd, 1) := by decide +kernel
theorem dX10_two_136 : decode cX10_two 136 = .ok (.imul, 1) := by decide +kernel
theorem dX10_two_137 : decode cX10_two 137 = .ok (.bipush 30, 2) := by decide +kernel
theorem dX10_two_139 : decode cX10_two 139 = .ok (.if_icmp .gt 100, 3) := by decide +kernel
theorem dX10_two_142 : decode cX10_two 142 = .ok (.aload_n 0, 1) := by decide +kernel
theorem dX10_two_143 : decode cX10_two 143 = .ok (.getfield 65, 3) := by decide +kernel
theorem dX10_two_146 : decode cX10_two 146 = .ok (.iload_n 2, 1) := by decide +kernel
theorem dX10_two_147 : decode cX10_two 147 = .ok (.iaload, 1) := by decide +kernel
theorem dX10_two_148 : decode cX10_two 148 = .ok (.aload_n 0, 1) := by decide +kernel
theorem dX10_two_149 : decode cX10_two 149 = .ok (.aload_n 0, 1) := by decide +kernel
theorem dX10_two_150 : decode cX10_two 150 = .ok (.getfield 59, 3) := by decide +kernel
theorem dX10_two_153 : decode cX10_two 153 = .ok (.iload_n 2, 1) := by decide +kernel
theorem dX10_two_154 : decode cX10_two 154 = .ok (.iaload, 1) := by decide +kernel
theorem dX10_two_155 : decode cX10_two 155 = .ok (.iload_n 3, 1) := by decide +kernel
theorem dX10_two_156 : decode cX10_two 156 = .ok (.iload_n 3, 1) := by decide +kernel
theorem dX10_two_157 : decode cX10_two 157 = .ok (.iload 5, 2) := by decide +kernel
theorem dX10_two_159 : decode cX10_two 159 = .ok (.iadd, 1) := by decide +kernel
theorem dX10_two_160 : decode cX10_two 160 = .ok (.iconst 1, 1) := by decide +kernel
theorem dX10_two_161 : decode cX10_two 161 = .ok (.isub, 1) := by decide +kernel
theorem dX10_two_162 : decode cX10_two 162 = .ok (.iload 9, 2) := by decide +kernel
theorem dX10_two_164 : decode cX10_two 164 = .ok (.invokevirtual 208, 3) := by decide +kernel
theorem dX10_two_167 : decode cX10_two 167 = .ok (.iadd, 1) := by decide +kernel
theorem dX10_two_168 : decode cX10_two 168 = .ok (.aload_n 0, 1) := by decide +kernel
theorem dX10_two_169 : decode cX10_two 169 = .ok (.aload_n 0, 1) := by decide +kernel
theorem dX10_two_170 : decode cX10_two 170 = .ok (.getfield 62, 3) := by decide +kernel
theorem dX10_two_173 : decode cX10_two 173 = .ok (.iload_n 2, 1) := by decide +kernel
theorem dX10_two_174 : decode cX10_two 174 = .ok (.iaload, 1) := by decide +kernel
theorem dX10_two_175 : decode cX10_two 175 = .ok (.iload_n 3, 1) := by decide +kernel
theorem dX10_two_176 : decode cX10_two 176 = .ok (.iload 5, 2) := by decide +kernel
theorem dX10_two_178 : decode cX10_two 178 = .ok (.iadd, 1) := by decide +kernel
theorem dX10_two_179 : decode cX10_two 179 = .ok (.iload 4, 2) := by decide +kernel
theorem dX10_two_181 : decode cX10_two 181 = .ok (.iload 11, 2) := by decide +kernel
theorem dX10_two_183 : decode cX10_two 183 = .ok (.invokevirtual 208, 3) := by decide +kernel
theorem dX10_two_186 : decode cX10_two 186 = .ok (.iadd, 1) := by decide +kernel
theorem dX10_two_187 : decode cX10_two 187 = .ok (.istore 12, 2) := by decide +kernel
theorem dX10_two_189 : decode cX10_two 189 = .ok (.aload_n 0, 1) := by decide +kernel
theorem dX10_two_190 : decode cX10_two 190 = .ok (.iload_n 1, 1) := by decide +kernel
theorem dX10_two_191 : decode cX10_two 191 = .ok (.iload 12, 2) := by decide +kernel
theorem dX10_two_193 : decode cX10_two 193 = .ok (.iload_n 2, 1) := by decide +kernel
theorem dX10_two_194 : decode cX10_two 194 = .ok (.bipush 15, 2) := by decide +kernel
theorem dX10_two_196 : decode cX10_two 196 = .ok (.ishl, 1) := by decide +kernel
theorem dX10_two_197 : decode cX10_two 197 = .ok (.iload 5, 2) := by decide +kernel
theorem dX10_two_199 : decode cX10_two 199 = .ok (.bipush 10, 2) := by decide +kernel
theorem dX10_two_201 : decode cX10_two 201 = .ok (.ishl, 1) := by decide +kernel
theorem dX10_two_202 : decode cX10_two 202 = .ok (.iadd, 1) := by decide +kernel
theorem dX10_two_203 : decode cX10_two 203 = .ok (.iload 9, 2) := by decide +kernel
theorem dX10_two_205 : decode cX10_two 205 = .ok (.iconst 5, 1) := by decide +kernel
theorem dX10_two_206 : decode cX10_two 206 = .ok (.ishl, 1) := by decide +kernel
theorem dX10_two_207 : decode cX10_two 207 = .ok (.iadd, 1) := by decide +kernel
theorem dX10_two_208 : decode cX10_two 208 = .ok (.iload 11, 2) := by decide +kernel
theorem dX10_two_210 : decode cX10_two 210 = .ok (.iadd, 1) := by decide +kernel
theorem dX10_two_211 : decode cX10_two 211 = .ok (.invokevirtual 212, 3) := by decide +kernel
theorem dX10_two_214 : decode cX10_two 214 = .ok (.istore 10, 2) := by decide +kernel
theorem dX10_two_216 : decode cX10_two 216 = .ok (.iload 10, 2) := by decide +kernel
theorem dX10_two_218 : decode cX10_two 218 = .ok (.ifCond .ne 8, 3) := by decide +kernel
theorem dX10_two_221 : decode cX10_two 221 = .ok (.iload 11, 2) := by decide +kernel
theorem dX10_two_223 : decode cX10_two 223 = .ok (.ifCond .le 7, 3) := by decide +kernel
theorem dX10_two_226 : decode cX10_two 226 = .ok (.iconst 1, 1) := by decide +kernel
theorem dX10_two_227 : decode cX10_two 227 = .ok (.goto 4, 3) := by decide +kernel
theorem dX10_two_230 : decode cX10_two 230 = .ok (.iconst 0, 1) := by decide +kernel
theorem dX10_two_231 : decode cX10_two 231 = .ok (.istore 8, 2) := by decide +kernel
theorem dX10_two_233 : decode cX10_two 233 = .ok (.iinc 11 1, 3) := by decide +kernel
theorem dX10_two_236 : decode cX10_two 236 = .ok (.goto (-120), 3) := by decide +kernel
theorem dX10_two_239 : decode cX10_two 239 = .ok (.iinc 9 1, 3) := by decide +kernel
theorem dX10_two_242 : decode cX10_two 242 = .ok (.goto (-144), 3) := by decide +kernel
theorem dX10_two_245 : decode cX10_two 245 = .ok (.iinc 5 1, 3) := by decide +kernel
theorem dX10_two_248 : decode cX10_two 248 = .ok (.goto (-245), 3) := by decide +kernel
theorem dX10_two_251 : decode cX10_two 251 = .ok (.return_, 1) := by decide +kernel
theorem dX10_order_0 : decode cX10_order 0 = .ok (.iconst 0, 1) := by decide +kernel
theorem dX10_order_1 : decode cX10_order 1 = .ok (.istore_n 1, 1) := by decide +kernel
theorem dX10_order_2 : decode cX10_order 2 = .ok (.iload_n 1, 1) := by decide +kernel
theorem dX10_order_3 : decode cX10_order 3 = .ok (.bipush 26, 2) := by decide +kernel
theorem dX10_order_5 : decode cX10_order 5 = .ok (.if_icmp .ge 16, 3) := by decide +kernel
theorem dX10_order_8 : decode cX10_order 8 = .ok (.aload_n 0, 1) := by decide +kernel
theorem dX10_order_9 : decode cX10_order 9 = .ok (.getfield 91, 3) := by decide +kernel
theorem dX10_order_12 : decode cX10_order 12 = .ok (.iload_n 1, 1) := by decide +kernel
theorem dX10_order_13 : decode cX10_order 13 = .ok (.iconst (-1), 1) := by decide +kernel
theorem dX10_order_14 : decode cX10_order 14 = .ok (.iastore, 1) := by decide +kernel
theorem dX10_order_15 : decode cX10_order 15 = .ok (.iinc 1 1, 3) := by decide +kernel
theorem dX10_order_18 : decode cX10_order 18 = .ok (.goto (-16), 3) := by decide +kernel
theorem dX10_order_21 : decode cX10_order 21 = .ok (.iconst 0, 1) := by decide +kernel
theorem dX10_order_22 : decode cX10_order 22 = .ok (.istore_n 1, 1) := by decide +kernel
theorem dX10_order_23 : decode cX10_order 23 = .ok (.iload_n 1, 1) := by decide +kernel
theorem dX10_order_24 : decode cX10_order 24 = .ok (.bipush 26, 2) := by decide +kernel
theorem dX10_order_26 : decode cX10_order 26 = .ok (.if_icmp .ge 124, 3) := by decide +kernel
theorem dX10_order_29 : decode cX10_order 29 = .ok (.iconst 0, 1) := by decide +kernel
theorem dX10_order_30 : decode cX10_order 30 = .ok (.istore_n 2, 1) := by decide +kernel
theorem dX10_order_31 : decode cX10_order 31 = .ok (.iload_n 2, 1) := by decide +kernel
theorem dX10_order_32 : decode cX10_order 32 = .ok (.bipush 26, 2) := by decide +kernel
theorem dX10_order_34 : decode cX10_order 34 = .ok (.if_icmp .ge 113, 3) := by decide +kernel
theorem dX10_order_37 : decode cX10_order 37 = .ok (.aload_n 0, 1) := by decide +kernel
theorem dX10_order_38 : decode cX10_order 38 = .ok (.getfield 91, 3) := by decide +kernel
theorem dX10_order_41 : decode cX10_order 41 = .ok (.iload_n 2, 1) := by decide +kernel
theorem dX10_order_42 : decode cX10_order 42 = .ok (.iaload, 1) := by decide +kernel
theorem dX10_order_43 : decode cX10_order 43 = .ok (.ifCond .ge 7, 3) := by decide +kernel
theorem dX10_order_46 : decode cX10_order 46 = .ok (.iconst 1, 1) := by decide +kernel
theorem dX10_order_47 : decode cX10_order 47 = .ok (.goto 4, 3) := by decide +kernel
theorem dX10_order_50 : decode cX10_order 50 = .ok (.iconst 0, 1) := by decide +kernel
theorem dX10_order_51 : decode cX10_order 51 = .ok (.istore_n 3, 1) := by decide +kernel
theorem dX10_order_52 : decode cX10_order 52 = .ok (.iconst 0, 1) := by decide +kernel
theorem dX10_order_53 : decode cX10_order 53 = .ok (.istore 4, 2) := by decide +kernel
theorem dX10_order_55 : decode cX10_order 55 = .ok (.iload 4, 2) := by decide +kernel
theorem dX10_order_57 : decode cX10_order 57 = .ok (.aload_n 0, 1) := by decide +kernel
theorem dX10_order_58 : decode cX10_order 58 = .ok (.getfield 216, 3) := by decide +kernel
theorem dX10_order_61 : decode cX10_order 61 = .ok (.if_icmp .ge 66, 3) := by decide +kernel
theorem dX10_order_64 : decode cX10_order 64 = .ok (.iload_n 3, 1) := by decide +kernel
theorem dX10_order_65 : decode cX10_order 65 = .ok (.aload_n 0, 1) := by decide +kernel
theorem dX10_order_66 : decode cX10_order 66 = .ok (.getfield 56, 3) := by decide +kernel
theorem dX10_order_69 : decode cX10_order 69 = .ok (.iload 4, 2) := by decide +kernel
theorem dX10_order_71 : decode cX10_order 71 = .ok (.iaload, 1) := by decide +kernel
theorem dX10_order_72 : decode cX10_order 72 = .ok (.iload_n 2, 1) := by decide +kernel
theorem dX10_order_73 : decode cX10_order 73 = .ok (.if_icmp .ne 41, 3) := by decide +kernel
theorem dX10_order_76 : decode cX10_order 76 = .ok (.aload_n 0, 1) := by decide +kernel
theorem dX10_order_77 : decode cX10_order 77 = .ok (.getfield 62, 3) := by decide +kernel
theorem dX10_order_80 : decode cX10_order 80 = .ok (.iload 4, 2) := by decide +kernel
theorem dX10_order_82 : decode cX10_order 82 = .ok (.iaload, 1) := by decide +kernel
theorem dX10_order_83 : decode cX10_order 83 = .ok (.iconst (-1), 1) := by decide +kernel
theorem dX10_order_84 : decode cX10_order 84 = .ok (.if_icmp .ne 30, 3) := by decide +kernel
theorem dX10_order_87 : decode cX10_order 87 = .ok (.aload_n 0, 1) := by decide +kernel
theorem dX10_order_88 : decode cX10_order 88 = .ok (.getfield 59, 3) := by decide +kernel
theorem dX10_order_91 : decode cX10_order 91 = .ok (.iload 4, 2) := by decide +kernel
theorem dX10_order_93 : decode cX10_order 93 = .ok (.iaload, 1) := by decide +kernel
theorem dX10_order_94 : decode cX10_order 94 = .ok (.bipush 100, 2) := by decide +kernel
theorem dX10_order_96 : decode cX10_order 96 = .ok (.if_icmp .ge 18, 3) := by decide +kernel
theorem dX10_order_99 : decode cX10_order 99 = .ok (.aload_n 0, 1) := by decide +kernel
theorem dX10_order_100 : decode cX10_order 100 = .ok (.getfield 91, 3) := by decide +kernel
theorem dX10_order_103 : decode cX10_order 103 = .ok (.aload_n 0, 1) := by decide +kernel
theorem dX10_order_104 : decode cX10_order 104 = .ok (.getfield 59, 3) := by decide +kernel
theorem dX10_order_107 : decode cX10_order 107 = .ok (.iload 4, 2) := by decide +kernel
theorem dX10_order_109 : decode cX10_order 109 = .ok (.iaload, 1) := by decide +kernel
theorem dX10_order_110 : decode cX10_order 110 = .ok (.iaload, 1) := by decide +kernel
theorem dX10_order_111 : decode cX10_order 111 = .ok (.ifCond .lt 7, 3) := by decide +kernel
theorem dX10_order_114 : decode cX10_order 114 = .ok (.iconst 1, 1) := by decide +kernel
theorem dX10_order_115 : decode cX10_order 115 = .ok (.goto 4, 3) := by decide +kernel
theorem dX10_order_118 : decode cX10_order 118 = .ok (.iconst 0, 1) := by decide +kernel
theorem dX10_order_119 : decode cX10_order 119 = .ok (.iand, 1) := by decide +kernel
theorem dX10_order_120 : decode cX10_order 120 = .ok (.istore_n 3, 1) := by decide +kernel
theorem dX10_order_121 : decode cX10_order 121 = .ok (.iinc 4 1, 3) := by decide +kernel
theorem dX10_order_124 : decode cX10_order 124 = .ok (.goto (-69), 3) := by decide +kernel
theorem dX10_order_127 : decode cX10_order 127 = .ok (.iload_n 3, 1) := by decide +kernel
theorem dX10_order_128 : decode cX10_order 128 = .ok (.ifCond .eq 13, 3) := by decide +kernel
theorem dX10_order_131 : decode cX10_order 131 = .ok (.aload_n 0, 1) := by decide +kernel
theorem dX10_order_132 : decode cX10_order 132 = .ok (.getfield 91, 3) := by decide +kernel
theorem dX10_order_135 : decode cX10_order 135 = .ok (.iload_n 2, 1) := by decide +kernel
theorem dX10_order_136 : decode cX10_order 136 = .ok (.iload_n 1, 1) := by decide +kernel
theorem dX10_order_137 : decode cX10_order 137 = .ok (.iastore, 1) := by decide +kernel
theorem dX10_order_138 : decode cX10_order 138 = .ok (.iinc 1 1, 3) := by decide +kernel
theorem dX10_order_141 : decode cX10_order 141 = .ok (.iinc 2 1, 3) := by decide +kernel
theorem dX10_order_144 : decode cX10_order 144 = .ok (.goto (-113), 3) := by decide +kernel
theorem dX10_order_147 : decode cX10_order 147 = .ok (.goto (-124), 3) := by decide +kernel
theorem dX10_order_150 : decode cX10_order 150 = .ok (.return_, 1) := by decide +kernel
theorem dX10_nameAt_0 : decode cX10_nameAt 0 = .ok (.iconst 0, 1) := by decide +kernel
theorem dX10_nameAt_1 : decode cX10_nameAt 1 = .ok (.istore_n 2, 1) := by decide +kernel
theorem dX10_nameAt_2 : decode cX10_nameAt 2 = .ok (.aload_n 0, 1) := by decide +kernel
theorem dX10_nameAt_3 : decode cX10_nameAt 3 = .ok (.getfield 91, 3) := by decide +kernel
theorem dX10_nameAt_6 : decode cX10_nameAt 6 = .ok (.iload_n 2, 1) := by decide +kernel
theorem dX10_nameAt_7 : decode cX10_nameAt 7 = .ok (.iaload, 1) := by decide +kernel
theorem dX10_nameAt_8 : decode cX10_nameAt 8 = .ok (.iload_n 1, 1) := by decide +kernel
theorem dX10_nameAt_9 : decode cX10_nameAt 9 = .ok (.if_icmp .eq 9, 3) := by decide +kernel
theorem dX10_nameAt_12 : decode cX10_nameAt 12 = .ok (.iinc 2 1, 3) := by decide +kernel
theorem dX10_nameAt_15 : decode cX10_nameAt 15 = .ok (.goto (-13), 3) := by decide +kernel
theorem dX10_nameAt_18 : decode cX10_nameAt 18 = .ok (.iload_n 2, 1) := by decide +kernel
theorem dX10_nameAt_19 : decode cX10_nameAt 19 = .ok (.ireturn, 1) := by decide +kernel
theorem dX10_parse_0 : decode cX10_parse 0 = .ok (.aload_n 0, 1) := by decide +kernel
theorem dX10_parse_1 : decode cX10_parse 1 = .ok (.iconst 0, 1) := by decide +kernel
theorem dX10_parse_2 : decode cX10_parse 2 = .ok (.putfield 106, 3) := by decide +kernel
theorem dX10_parse_5 : decode cX10_parse 5 = .ok (.aload_n 0, 1) := by decide +kernel
theorem dX10_parse_6 : decode cX10_parse 6 = .ok (.getfield 172, 3) := by decide +kernel
theorem dX10_parse_9 : decode cX10_parse 9 = .ok (.ifCond .eq 10, 3) := by decide +kernel
theorem dX10_parse_12 : decode cX10_parse 12 = .ok (.aload_n 0, 1) := by decide +kernel
theorem dX10_parse_13 : decode cX10_parse 13 = .ok (.getfield 175, 3) := by decide +kernel
theorem dX10_parse_16 : decode cX10_parse 16 = .ok (.ifCond .ne 5, 3) := by decide +kernel
theorem dX10_parse_19 : decode cX10_parse 19 = .ok (.iconst (-1), 1) := by decide +kernel
theorem dX10_parse_20 : decode cX10_parse 20 = .ok (.ireturn, 1) := by decide +kernel
theorem dX10_parse_21 : decode cX10_parse 21 = .ok (.aload_n 0, 1) := by decide +kernel
theorem dX10_parse_22 : decode cX10_parse 22 = .ok (.iconst 1, 1) := by decide +kernel
theorem dX10_parse_23 : decode cX10_parse 23 = .ok (.putfield 219, 3) := by decide +kernel
theorem dX10_parse_26 : decode cX10_parse 26 = .ok (.aload_n 0, 1) := by decide +kernel
theorem dX10_parse_27 : decode cX10_parse 27 = .ok (.aload_n 0, 1) := by decide +kernel
theorem dX10_parse_28 : decode cX10_parse 28 = .ok (.getfield 175, 3) := by decide +kernel
theorem dX10_parse_31 : decode cX10_parse 31 = .ok (.putfield 192, 3) := by decide +kernel
theorem dX10_parse_34 : decode cX10_parse 34 = .ok (.aload_n 0, 1) := by decide +kernel
theorem dX10_parse_35 : decode cX10_parse 35 = .ok (.aload_n 0, 1) := by decide +kernel
theorem dX10_parse_36 : decode cX10_parse 36 = .ok (.getfield 172, 3) := by decide +kernel
theorem dX10_parse_39 : decode cX10_parse 39 = .ok (.putfield 216, 3) := by decide +kernel
theorem dX10_parse_42 : decode cX10_parse 42 = .ok (.iconst 0, 1) := by decide +kernel
theorem dX10_parse_43 : decode cX10_parse 43 = .ok (.istore_n 1, 1) := by decide +kernel
theorem dX10_parse_44 : decode cX10_parse 44 = .ok (.iload_n 1, 1) := by decide +kernel
theorem dX10_parse_45 : decode cX10_parse 45 = .ok (.aload_n 0, 1) := by decide +kernel
theorem dX10_parse_46 : decode cX10_parse 46 = .ok (.getfield 172, 3) := by decide +kernel
theorem dX10_parse_49 : decode cX10_parse 49 = .ok (.if_icmp .ge 57, 3) := by decide +kernel
theorem dX10_parse_52 : decode cX10_parse 52 = .ok (.aload_n 0, 1) := by decide +kernel
theorem dX10_parse_53 : decode cX10_parse 53 = .ok (.getfield 56, 3) := by decide +kernel
theorem dX10_parse_56 : decode cX10_parse 56 = .ok (.iload_n 1, 1) := by decide +kernel
theorem dX10_parse_57 : decode cX10_parse 57 = .ok (.aload_n 0, 1) := by decide +kernel
theorem dX10_parse_58 : decode cX10_parse 58 = .ok (.getfield 25, 3) := by decide +kernel
theorem dX10_parse_61 : decode cX10_parse 61 = .ok (.iload_n 1, 1) := by decide +kernel
theorem dX10_parse_62 : decode cX10_parse 62 = .ok (.iaload, 1) := by decide +kernel
theorem dX10_parse_63 : decode cX10_parse 63 = .ok (.iastore, 1) := by decide +kernel
theorem dX10_parse_64 : decode cX10_parse 64 = .ok (.aload_n 0, 1) := by decide +kernel
theorem dX10_parse_65 : decode cX10_parse 65 = .ok (.getfield 59, 3) := by decide +kernel
theorem dX10_parse_68 : decode cX10_parse 68 = .ok (.iload_n 1, 1) := by decide +kernel
theorem dX10_parse_69 : decode cX10_parse 69 = .ok (.aload_n 0, 1) := by decide +kernel
theorem dX10_parse_70 : decode cX10_parse 70 = .ok (.getfield 28, 3) := by decide +kernel
theorem dX10_parse_73 : decode cX10_parse 73 = .ok (.iload_n 1, 1) := by decide +kernel
theorem dX10_parse_74 : decode cX10_parse 74 = .ok (.iaload, 1) := by decide +kernel
theorem dX10_parse_75 : decode cX10_parse 75 = .ok (.iastore, 1) := by decide +kernel
theorem dX10_parse_76 : decode cX10_parse 76 = .ok (.aload_n 0, 1) := by decide +kernel
theorem dX10_parse_77 : decode cX10_parse 77 = .ok (.getfield 62, 3) := by decide +kernel
theorem dX10_parse_80 : decode cX10_parse 80 = .ok (.iload_n 1, 1) := by decide +kernel
theorem dX10_parse_81 : decode cX10_parse 81 = .ok (.aload_n 0, 1) := by decide +kernel
theorem dX10_parse_82 : decode cX10_parse 82 = .ok (.getfield 31, 3) := by decide +kernel
theorem dX10_parse_85 : decode cX10_parse 85 = .ok (.iload_n 1, 1) := by decide +kernel
theorem dX10_parse_86 : decode cX10_parse 86 = .ok (.iaload, 1) := by decide +kernel
theorem dX10_parse_87 : decode cX10_parse 87 = .ok (.iastore, 1) := by decide +kernel
theorem dX10_parse_88 : decode cX10_parse 88 = .ok (.aload_n 0, 1) := by decide +kernel
theorem dX10_parse_89 : decode cX10_parse 89 = .ok (.getfield 65, 3) := by decide +kernel
theorem dX10_parse_92 : decode cX10_parse 92 = .ok (.iload_n 1, 1) := by decide +kernel
theorem dX10_parse_93 : decode cX10_parse 93 = .ok (.aload_n 0, 1) := by decide +kernel
theorem dX10_parse_94 : decode cX10_parse 94 = .ok (.getfield 34, 3) := by decide +kernel
theorem dX10_parse_97 : decode cX10_parse 97 = .ok (.iload_n 1, 1) := by decide +kernel
theorem dX10_parse_98 : decode cX10_parse 98 = .ok (.iaload, 1) := by decide +kernel
theorem dX10_parse_99 : decode cX10_parse 99 = .ok (.iastore, 1) := by decide +kernel
theorem dX10_parse_100 : decode cX10_parse 100 = .ok (.iinc 1 1, 3) := by decide +kernel
theorem dX10_parse_103 : decode cX10_parse 103 = .ok (.goto (-59), 3) := by decide +kernel
theorem dX10_parse_106 : decode cX10_parse 106 = .ok (.iconst 0, 1) := by decide +kernel
theorem dX10_parse_107 : decode cX10_parse 107 = .ok (.istore_n 1, 1) := by decide +kernel
theorem dX10_parse_108 : decode cX10_parse 108 = .ok (.iload_n 1, 1) := by decide +kernel
theorem dX10_parse_109 : decode cX10_parse 109 = .ok (.aload_n 0, 1) := by decide +kernel
theorem dX10_parse_110 : decode cX10_parse 110 = .ok (.getfield 192, 3) := by decide +kernel
theorem dX10_parse_113 : decode cX10_parse 113 = .ok (.if_icmp .ge 21, 3) := by decide +kernel
theorem dX10_parse_116 : decode cX10_parse 116 = .ok (.aload_n 0, 1) := by decide +kernel
theorem dX10_parse_117 : decode cX10_parse 117 = .ok (.getfield 68, 3) := by decide +kernel
theorem dX10_parse_120 : decode cX10_parse 120 = .ok (.iload_n 1, 1) := by decide +kernel
theorem dX10_parse_121 : decode cX10_parse 121 = .ok (.aload_n 0, 1) := by decide +kernel
theorem dX10_parse_122 : decode cX10_parse 122 = .ok (.getfield 22, 3) := by decide +kernel
theorem dX10_parse_125 : decode cX10_parse 125 = .ok (.iload_n 1, 1) := by decide +kernel
theorem dX10_parse_126 : decode cX10_parse 126 = .ok (.iaload, 1) := by decide +kernel
theorem dX10_parse_127 : decode cX10_parse 127 = .ok (.iastore, 1) := by decide +kernel
theorem dX10_parse_128 : decode cX10_parse 128 = .ok (.iinc 1 1, 3) := by decide +kernel
theorem dX10_parse_131 : decode cX10_parse 131 = .ok (.goto (-23), 3) := by decide +kernel
theorem dX10_parse_134 : decode cX10_parse 134 = .ok (.aload_n 0, 1) := by decide +kernel
theorem dX10_parse_135 : decode cX10_parse 135 = .ok (.invokevirtual 222, 3) := by decide +kernel
theorem dX10_parse_138 : decode cX10_parse 138 = .ok (.aload_n 0, 1) := by decide +kernel
theorem dX10_parse_139 : decode cX10_parse 139 = .ok (.invokevirtual 225, 3) := by decide +kernel
theorem dX10_parse_142 : decode cX10_parse 142 = .ok (.iconst 0, 1) := by decide +kernel
theorem dX10_parse_143 : decode cX10_parse 143 = .ok (.istore_n 1, 1) := by decide +kernel
theorem dX10_parse_144 : decode cX10_parse 144 = .ok (.iload_n 1, 1) := by decide +kernel
theorem dX10_parse_145 : decode cX10_parse 145 = .ok (.sipush 7800, 3) := by decide +kernel
theorem dX10_parse_148 : decode cX10_parse 148 = .ok (.if_icmp .ge 23, 3) := by decide +kernel
theorem dX10_parse_151 : decode cX10_parse 151 = .ok (.aload_n 0, 1) := by decide +kernel
theorem dX10_parse_152 : decode cX10_parse 152 = .ok (.getfield 77, 3) := by decide +kernel
theorem dX10_parse_155 : decode cX10_parse 155 = .ok (.iload_n 1, 1) := by decide +kernel
theorem dX10_parse_156 : decode cX10_parse 156 = .ok (.iconst 0, 1) := by decide +kernel
theorem dX10_parse_157 : decode cX10_parse 157 = .ok (.iastore, 1) := by decide +kernel
theorem dX10_parse_158 : decode cX10_parse 158 = .ok (.aload_n 0, 1) := by decide +kernel
theorem dX10_parse_159 : decode cX10_parse 159 = .ok (.getfield 80, 3) := by decide +kernel
theorem dX10_parse_162 : decode cX10_parse 162 = .ok (.iload_n 1, 1) := by decide +kernel
theorem dX10_parse_163 : decode cX10_parse 163 = .ok (.lconst 0, 1) := by decide +kernel
theorem dX10_parse_164 : decode cX10_parse 164 = .ok (.lastore, 1) := by decide +kernel
theorem dX10_parse_165 : decode cX10_parse 165 = .ok (.iinc 1 1, 3) := by decide +kernel
theorem dX10_parse_168 : decode cX10_parse 168 = .ok (.goto (-24), 3) := by decide +kernel
theorem dX10_parse_171 : decode cX10_parse 171 = .ok (.iconst 0, 1) := by decide +kernel
theorem dX10_parse_172 : decode cX10_parse 172 = .ok (.istore_n 1, 1) := by decide +kernel
theorem dX10_parse_173 : decode cX10_parse 173 = .ok (.iload_n 1, 1) := by decide +kernel
theorem dX10_parse_174 : decode cX10_parse 174 = .ok (.aload_n 0, 1) := by decide +kernel
theorem dX10_parse_175 : decode cX10_parse 175 = .ok (.getfield 192, 3) := by decide +kernel
theorem dX10_parse_178 : decode cX10_parse 178 = .ok (.if_icmp .ge 139, 3) := by decide +kernel
theorem dX10_parse_181 : decode cX10_parse 181 = .ok (.iconst 0, 1) := by decide +kernel
theorem dX10_parse_182 : decode cX10_parse 182 = .ok (.istore_n 2, 1) := by decide +kernel
theorem dX10_parse_183 : decode cX10_parse 183 = .ok (.iload_n 2, 1) := by decide +kernel
theorem dX10_parse_184 : decode cX10_parse 184 = .ok (.iload_n 1, 1) := by decide +kernel
theorem dX10_parse_185 : decode cX10_parse 185 = .ok (.iadd, 1) := by decide +kernel
theorem dX10_parse_186 : decode cX10_parse 186 = .ok (.aload_n 0, 1) := by decide +kernel
theorem dX10_parse_187 : decode cX10_parse 187 = .ok (.getfield 192, 3) := by decide +kernel
theorem dX10_parse_190 : decode cX10_parse 190 = .ok (.if_icmp .ge 121, 3) := by decide +kernel
theorem dX10_parse_193 : decode cX10_parse 193 = .ok (.iconst 0, 1) := by decide +kernel
theorem dX10_parse_194 : decode cX10_parse 194 = .ok (.istore_n 3, 1) := by decide +kernel
theorem dX10_parse_195 : decode cX10_parse 195 = .ok (.iload_n 3, 1) := by decide +kernel
theorem dX10_parse_196 : decode cX10_parse 196 = .ok (.bipush 26, 2) := by decide +kernel
theorem dX10_parse_198 : decode cX10_parse 198 = .ok (.if_icmp .ge 107, 3) := by decide +kernel
theorem dX10_parse_201 : decode cX10_parse 201 = .ok (.aload_n 0, 1) := by decide +kernel
theorem dX10_parse_202 : decode cX10_parse 202 = .ok (.iload_n 3, 1) := by decide +kernel
theorem dX10_parse_203 : decode cX10_parse 203 = .ok (.invokevirtual 228, 3) := by decide +kernel
theorem dX10_parse_206 : decode cX10_parse 206 = .ok (.istore 4, 2) := by decide +kernel
theorem dX10_parse_208 : decode cX10_parse 208 = .ok (.iload 4, 2) := by decide +kernel
theorem dX10_parse_210 : decode cX10_parse 210 = .ok (.iload_n 2, 1) := by decide +kernel
theorem dX10_parse_211 : decode cX10_parse 211 = .ok (.iload_n 2, 1) := by decide +kernel
theorem dX10_parse_212 : decode cX10_parse 212 = .ok (.iload_n 1, 1) := by decide +kernel
theorem dX10_parse_213 : decode cX10_parse 213 = .ok (.iadd, 1) := by decide +kernel
theorem dX10_parse_214 : decode cX10_parse 214 = .ok (.invokestatic 198, 3) := by decide +kernel
theorem dX10_parse_217 : decode cX10_parse 217 = .ok (.istore 5, 2) := by decide +kernel
theorem dX10_parse_219 : decode cX10_parse 219 = .ok (.iconst 0, 1) := by decide +kernel
theorem dX10_parse_220 : decode cX10_parse 220 = .ok (.istore 6, 2) := by decide +kernel
theorem dX10_parse_222 : decode cX10_parse 222 = .ok (.iload 6, 2) := by decide +kernel
theorem dX10_parse_224 : decode cX10_parse 224 = .ok (.aload_n 0, 1) := by decide +kernel
theorem dX10_parse_225 : decode cX10_parse 225 = .ok (.getfield 216, 3) := by decide +kernel
theorem dX10_parse_228 : decode cX10_parse 228 = .ok (.if_icmp .ge 71, 3) := by decide +kernel
theorem dX10_parse_231 : decode cX10_parse 231 = .ok (.aload_n 0, 1) := by decide +kernel
theorem dX10_parse_232 : decode cX10_parse 232 = .ok (.getfield 56, 3) := by decide +kernel
theorem dX10_parse_235 : decode cX10_parse 235 = .ok (.iload 6, 2) := by decide +kernel
theorem dX10_parse_237 : decode cX10_parse 237 = .ok (.iaload, 1) := by decide +kernel
theorem dX10_parse_238 : decode cX10_parse 238 = .ok (.iload 4, 2) := by decide +kernel
theorem dX10_parse_240 : decode cX10_parse 240 = .ok (.if_icmp .ne 29, 3) := by decide +kernel
theorem dX10_parse_243 : decode cX10_parse 243 = .ok (.aload_n 0, 1) := by decide +kernel
theorem dX10_parse_244 : decode cX10_parse 244 = .ok (.getfield 62, 3) := by decide +kernel
theorem dX10_parse_247 : decode cX10_parse 247 = .ok (.iload 6, 2) := by decide +kernel
theorem dX10_parse_249 : decode cX10_parse 249 = .ok (.iaload, 1) := by decide +kernel
theorem dX10_parse_250 : decode cX10_parse 250 = .ok (.iconst (-1), 1) := by decide +kernel
theorem dX10_parse_251 : decode cX10_parse 251 = .ok (.if_icmp .ne 18, 3) := by decide +kernel
theorem dX10_parse_254 : decode cX10_parse 254 = .ok (.aload_n 0, 1) := by decide +kernel
end
section
theorem dX10_parse_255 : decode cX10_parse 255 = .ok (.iload 5, 2) := by decide +kernel
theorem dX10_parse_257 : decode cX10_parse 257 = .ok (.iload 6, 2) := by decide +kernel
theorem dX10_parse_259 : decode cX10_parse 259 = .ok (.iload_n 2, 1) := by decide +kernel
theorem dX10_parse_260 : decode cX10_parse 260 = .ok (.iload_n 2, 1) := by decide +kernel
theorem dX10_parse_261 : decode cX10_parse 261 = .ok (.iload_n 1, 1) := by decide +kernel
theorem dX10_parse_262 : decode cX10_parse 262 = .ok (.iadd, 1) := by decide +kernel
theorem dX10_parse_263 : decode cX10_parse 263 = .ok (.invokevirtual 231, 3) := by decide +kernel
theorem dX10_parse_266 : decode cX10_parse 266 = .ok (.goto 27, 3) := by decide +kernel
theorem dX10_parse_269 : decode cX10_parse 269 = .ok (.aload_n 0, 1) := by decide +kernel
theorem dX10_parse_270 : decode cX10_parse 270 = .ok (.getfield 56, 3) := by decide +kernel
theorem dX10_parse_273 : decode cX10_parse 273 = .ok (.iload 6, 2) := by decide +kernel
theorem dX10_parse_275 : decode cX10_parse 275 = .ok (.iaload, 1) := by decide +kernel
theorem dX10_parse_276 : decode cX10_parse 276 = .ok (.iload 4, 2) := by decide +kernel
theorem dX10_parse_278 : decode cX10_parse 278 = .ok (.if_icmp .ne 15, 3) := by decide +kernel
theorem dX10_parse_281 : decode cX10_parse 281 = .ok (.aload_n 0, 1) := by decide +kernel
theorem dX10_parse_282 : decode cX10_parse 282 = .ok (.iload 5, 2) := by decide +kernel
theorem dX10_parse_284 : decode cX10_parse 284 = .ok (.iload 6, 2) := by decide +kernel
theorem dX10_parse_286 : decode cX10_parse 286 = .ok (.iload_n 2, 1) := by decide +kernel
theorem dX10_parse_287 : decode cX10_parse 287 = .ok (.iload_n 2, 1) := by decide +kernel
theorem dX10_parse_288 : decode cX10_parse 288 = .ok (.iload_n 1, 1) := by decide +kernel
theorem dX10_parse_289 : decode cX10_parse 289 = .ok (.iadd, 1) := by decide +kernel
theorem dX10_parse_290 : decode cX10_parse 290 = .ok (.invokevirtual 235, 3) := by decide +kernel
theorem dX10_parse_293 : decode cX10_parse 293 = .ok (.iinc 6 1, 3) := by decide +kernel
theorem dX10_parse_296 : decode cX10_parse 296 = .ok (.goto (-74), 3) := by decide +kernel
theorem dX10_parse_299 : decode cX10_parse 299 = .ok (.iinc 3 1, 3) := by decide +kernel
theorem dX10_parse_302 : decode cX10_parse 302 = .ok (.goto (-107), 3) := by decide +kernel
theorem dX10_parse_305 : decode cX10_parse 305 = .ok (.iinc 2 1, 3) := by decide +kernel
theorem dX10_parse_308 : decode cX10_parse 308 = .ok (.goto (-125), 3) := by decide +kernel
theorem dX10_parse_311 : decode cX10_parse 311 = .ok (.iinc 1 1, 3) := by decide +kernel
theorem dX10_parse_314 : decode cX10_parse 314 = .ok (.goto (-141), 3) := by decide +kernel
theorem dX10_parse_317 : decode cX10_parse 317 = .ok (.aload_n 0, 1) := by decide +kernel
theorem dX10_parse_318 : decode cX10_parse 318 = .ok (.invokevirtual 238, 3) := by decide +kernel
theorem dX10_parse_321 : decode cX10_parse 321 = .ok (.ireturn, 1) := by decide +kernel
theorem dX10_topCell_0 : decode cX10_topCell 0 = .ok (.aload_n 0, 1) := by decide +kernel
theorem dX10_topCell_1 : decode cX10_topCell 1 = .ok (.getfield 56, 3) := by decide +kernel
theorem dX10_topCell_4 : decode cX10_topCell 4 = .ok (.iconst 0, 1) := by decide +kernel
theorem dX10_topCell_5 : decode cX10_topCell 5 = .ok (.iaload, 1) := by decide +kernel
theorem dX10_topCell_6 : decode cX10_topCell 6 = .ok (.iconst 0, 1) := by decide +kernel
theorem dX10_topCell_7 : decode cX10_topCell 7 = .ok (.aload_n 0, 1) := by decide +kernel
theorem dX10_topCell_8 : decode cX10_topCell 8 = .ok (.getfield 192, 3) := by decide +kernel
theorem dX10_topCell_11 : decode cX10_topCell 11 = .ok (.iconst 1, 1) := by decide +kernel
theorem dX10_topCell_12 : decode cX10_topCell 12 = .ok (.isub, 1) := by decide +kernel
theorem dX10_topCell_13 : decode cX10_topCell 13 = .ok (.invokestatic 198, 3) := by decide +kernel
theorem dX10_topCell_16 : decode cX10_topCell 16 = .ok (.ireturn, 1) := by decide +kernel
theorem dX10_listed_0 : decode cX10_listed 0 = .ok (.aload_n 0, 1) := by decide +kernel
theorem dX10_listed_1 : decode cX10_listed 1 = .ok (.getfield 219, 3) := by decide +kernel
theorem dX10_listed_4 : decode cX10_listed 4 = .ok (.ifCond .eq 15, 3) := by decide +kernel
theorem dX10_listed_7 : decode cX10_listed 7 = .ok (.aload_n 0, 1) := by decide +kernel
theorem dX10_listed_8 : decode cX10_listed 8 = .ok (.getfield 77, 3) := by decide +kernel
theorem dX10_listed_11 : decode cX10_listed 11 = .ok (.aload_n 0, 1) := by decide +kernel
theorem dX10_listed_12 : decode cX10_listed 12 = .ok (.invokevirtual 241, 3) := by decide +kernel
theorem dX10_listed_15 : decode cX10_listed 15 = .ok (.iaload, 1) := by decide +kernel
theorem dX10_listed_16 : decode cX10_listed 16 = .ok (.goto 4, 3) := by decide +kernel
theorem dX10_listed_19 : decode cX10_listed 19 = .ok (.iconst 0, 1) := by decide +kernel
theorem dX10_listed_20 : decode cX10_listed 20 = .ok (.ireturn, 1) := by decide +kernel
theorem dX10_noReading_0 : decode cX10_noReading 0 = .ok (.iload_n 1, 1) := by decide +kernel
theorem dX10_noReading_1 : decode cX10_noReading 1 = .ok (.ifCond .lt 11, 3) := by decide +kernel
theorem dX10_noReading_4 : decode cX10_noReading 4 = .ok (.iload_n 1, 1) := by decide +kernel
theorem dX10_noReading_5 : decode cX10_noReading 5 = .ok (.aload_n 0, 1) := by decide +kernel
theorem dX10_noReading_6 : decode cX10_noReading 6 = .ok (.invokevirtual 238, 3) := by decide +kernel
theorem dX10_noReading_9 : decode cX10_noReading 9 = .ok (.if_icmp .lt 7, 3) := by decide +kernel
theorem dX10_noReading_12 : decode cX10_noReading 12 = .ok (.iconst 1, 1) := by decide +kernel
theorem dX10_noReading_13 : decode cX10_noReading 13 = .ok (.goto 4, 3) := by decide +kernel
theorem dX10_noReading_16 : decode cX10_noReading 16 = .ok (.iconst 0, 1) := by decide +kernel
theorem dX10_noReading_17 : decode cX10_noReading 17 = .ok (.ireturn, 1) := by decide +kernel
theorem dX10_readings_0 : decode cX10_readings 0 = .ok (.aload_n 0, 1) := by decide +kernel
theorem dX10_readings_1 : decode cX10_readings 1 = .ok (.iconst 0, 1) := by decide +kernel
theorem dX10_readings_2 : decode cX10_readings 2 = .ok (.putfield 106, 3) := by decide +kernel
theorem dX10_readings_5 : decode cX10_readings 5 = .ok (.aload_n 0, 1) := by decide +kernel
theorem dX10_readings_6 : decode cX10_readings 6 = .ok (.getfield 219, 3) := by decide +kernel
theorem dX10_readings_9 : decode cX10_readings 9 = .ok (.ifCond .eq 15, 3) := by decide +kernel
theorem dX10_readings_12 : decode cX10_readings 12 = .ok (.aload_n 0, 1) := by decide +kernel
theorem dX10_readings_13 : decode cX10_readings 13 = .ok (.getfield 80, 3) := by decide +kernel
theorem dX10_readings_16 : decode cX10_readings 16 = .ok (.aload_n 0, 1) := by decide +kernel
theorem dX10_readings_17 : decode cX10_readings 17 = .ok (.invokevirtual 241, 3) := by decide +kernel
theorem dX10_readings_20 : decode cX10_readings 20 = .ok (.laload, 1) := by decide +kernel
theorem dX10_readings_21 : decode cX10_readings 21 = .ok (.goto 4, 3) := by decide +kernel
theorem dX10_readings_24 : decode cX10_readings 24 = .ok (.lconst 0, 1) := by decide +kernel
theorem dX10_readings_25 : decode cX10_readings 25 = .ok (.lreturn, 1) := by decide +kernel
theorem dX10_price_0 : decode cX10_price 0 = .ok (.aload_n 0, 1) := by decide +kernel
theorem dX10_price_1 : decode cX10_price 1 = .ok (.iconst 0, 1) := by decide +kernel
theorem dX10_price_2 : decode cX10_price 2 = .ok (.putfield 106, 3) := by decide +kernel
theorem dX10_price_5 : decode cX10_price 5 = .ok (.aload_n 0, 1) := by decide +kernel
theorem dX10_price_6 : decode cX10_price 6 = .ok (.iload_n 1, 1) := by decide +kernel
theorem dX10_price_7 : decode cX10_price 7 = .ok (.invokevirtual 244, 3) := by decide +kernel
theorem dX10_price_10 : decode cX10_price 10 = .ok (.ifCond .eq 7, 3) := by decide +kernel
theorem dX10_price_13 : decode cX10_price 13 = .ok (.iconst (-1), 1) := by decide +kernel
theorem dX10_price_14 : decode cX10_price 14 = .ok (.goto 17, 3) := by decide +kernel
theorem dX10_price_17 : decode cX10_price 17 = .ok (.aload_n 0, 1) := by decide +kernel
theorem dX10_price_18 : decode cX10_price 18 = .ok (.getfield 85, 3) := by decide +kernel
theorem dX10_price_21 : decode cX10_price 21 = .ok (.bipush 30, 2) := by decide +kernel
theorem dX10_price_23 : decode cX10_price 23 = .ok (.aload_n 0, 1) := by decide +kernel
theorem dX10_price_24 : decode cX10_price 24 = .ok (.invokevirtual 241, 3) := by decide +kernel
theorem dX10_price_27 : decode cX10_price 27 = .ok (.imul, 1) := by decide +kernel
theorem dX10_price_28 : decode cX10_price 28 = .ok (.iload_n 1, 1) := by decide +kernel
theorem dX10_price_29 : decode cX10_price 29 = .ok (.iadd, 1) := by decide +kernel
theorem dX10_price_30 : decode cX10_price 30 = .ok (.iaload, 1) := by decide +kernel
theorem dX10_price_31 : decode cX10_price 31 = .ok (.ireturn, 1) := by decide +kernel
theorem dX10_later_0 : decode cX10_later 0 = .ok (.aload_n 0, 1) := by decide +kernel
theorem dX10_later_1 : decode cX10_later 1 = .ok (.getfield 94, 3) := by decide +kernel
theorem dX10_later_4 : decode cX10_later 4 = .ok (.aload_n 0, 1) := by decide +kernel
theorem dX10_later_5 : decode cX10_later 5 = .ok (.getfield 247, 3) := by decide +kernel
theorem dX10_later_8 : decode cX10_later 8 = .ok (.iload_n 1, 1) := by decide +kernel
theorem dX10_later_9 : decode cX10_later 9 = .ok (.iastore, 1) := by decide +kernel
theorem dX10_later_10 : decode cX10_later 10 = .ok (.aload_n 0, 1) := by decide +kernel
theorem dX10_later_11 : decode cX10_later 11 = .ok (.getfield 97, 3) := by decide +kernel
theorem dX10_later_14 : decode cX10_later 14 = .ok (.aload_n 0, 1) := by decide +kernel
theorem dX10_later_15 : decode cX10_later 15 = .ok (.getfield 247, 3) := by decide +kernel
theorem dX10_later_18 : decode cX10_later 18 = .ok (.iload_n 2, 1) := by decide +kernel
theorem dX10_later_19 : decode cX10_later 19 = .ok (.iastore, 1) := by decide +kernel
theorem dX10_later_20 : decode cX10_later 20 = .ok (.aload_n 0, 1) := by decide +kernel
theorem dX10_later_21 : decode cX10_later 21 = .ok (.getfield 100, 3) := by decide +kernel
theorem dX10_later_24 : decode cX10_later 24 = .ok (.aload_n 0, 1) := by decide +kernel
theorem dX10_later_25 : decode cX10_later 25 = .ok (.getfield 247, 3) := by decide +kernel
theorem dX10_later_28 : decode cX10_later 28 = .ok (.iload_n 3, 1) := by decide +kernel
theorem dX10_later_29 : decode cX10_later 29 = .ok (.iastore, 1) := by decide +kernel
theorem dX10_later_30 : decode cX10_later 30 = .ok (.aload_n 0, 1) := by decide +kernel
theorem dX10_later_31 : decode cX10_later 31 = .ok (.getfield 103, 3) := by decide +kernel
theorem dX10_later_34 : decode cX10_later 34 = .ok (.aload_n 0, 1) := by decide +kernel
theorem dX10_later_35 : decode cX10_later 35 = .ok (.getfield 247, 3) := by decide +kernel
theorem dX10_later_38 : decode cX10_later 38 = .ok (.iload 4, 2) := by decide +kernel
theorem dX10_later_40 : decode cX10_later 40 = .ok (.iastore, 1) := by decide +kernel
theorem dX10_later_41 : decode cX10_later 41 = .ok (.aload_n 0, 1) := by decide +kernel
theorem dX10_later_42 : decode cX10_later 42 = .ok (.dup, 1) := by decide +kernel
theorem dX10_later_43 : decode cX10_later 43 = .ok (.getfield 247, 3) := by decide +kernel
theorem dX10_later_46 : decode cX10_later 46 = .ok (.iconst 1, 1) := by decide +kernel
theorem dX10_later_47 : decode cX10_later 47 = .ok (.iadd, 1) := by decide +kernel
theorem dX10_later_48 : decode cX10_later 48 = .ok (.putfield 247, 3) := by decide +kernel
theorem dX10_later_51 : decode cX10_later 51 = .ok (.return_, 1) := by decide +kernel
theorem dX10_begin_0 : decode cX10_begin 0 = .ok (.aload_n 0, 1) := by decide +kernel
theorem dX10_begin_1 : decode cX10_begin 1 = .ok (.iconst 0, 1) := by decide +kernel
theorem dX10_begin_2 : decode cX10_begin 2 = .ok (.putfield 247, 3) := by decide +kernel
theorem dX10_begin_5 : decode cX10_begin 5 = .ok (.aload_n 0, 1) := by decide +kernel
theorem dX10_begin_6 : decode cX10_begin 6 = .ok (.aload_n 0, 1) := by decide +kernel
theorem dX10_begin_7 : decode cX10_begin 7 = .ok (.getfield 56, 3) := by decide +kernel
theorem dX10_begin_10 : decode cX10_begin 10 = .ok (.iconst 0, 1) := by decide +kernel
theorem dX10_begin_11 : decode cX10_begin 11 = .ok (.iaload, 1) := by decide +kernel
theorem dX10_begin_12 : decode cX10_begin 12 = .ok (.iconst 0, 1) := by decide +kernel
theorem dX10_begin_13 : decode cX10_begin 13 = .ok (.aload_n 0, 1) := by decide +kernel
theorem dX10_begin_14 : decode cX10_begin 14 = .ok (.getfield 192, 3) := by decide +kernel
theorem dX10_begin_17 : decode cX10_begin 17 = .ok (.iconst 1, 1) := by decide +kernel
theorem dX10_begin_18 : decode cX10_begin 18 = .ok (.isub, 1) := by decide +kernel
theorem dX10_begin_19 : decode cX10_begin 19 = .ok (.iload_n 1, 1) := by decide +kernel
theorem dX10_begin_20 : decode cX10_begin 20 = .ok (.invokevirtual 250, 3) := by decide +kernel
theorem dX10_begin_23 : decode cX10_begin 23 = .ok (.return_, 1) := by decide +kernel
theorem dX10_next_0 : decode cX10_next 0 = .ok (.aload_n 0, 1) := by decide +kernel
theorem dX10_next_1 : decode cX10_next 1 = .ok (.getfield 247, 3) := by decide +kernel
theorem dX10_next_4 : decode cX10_next 4 = .ok (.ifCond .ne 5, 3) := by decide +kernel
theorem dX10_next_7 : decode cX10_next 7 = .ok (.iconst 0, 1) := by decide +kernel
theorem dX10_next_8 : decode cX10_next 8 = .ok (.ireturn, 1) := by decide +kernel
theorem dX10_next_9 : decode cX10_next 9 = .ok (.aload_n 0, 1) := by decide +kernel
theorem dX10_next_10 : decode cX10_next 10 = .ok (.dup, 1) := by decide +kernel
theorem dX10_next_11 : decode cX10_next 11 = .ok (.getfield 247, 3) := by decide +kernel
theorem dX10_next_14 : decode cX10_next 14 = .ok (.iconst 1, 1) := by decide +kernel
theorem dX10_next_15 : decode cX10_next 15 = .ok (.isub, 1) := by decide +kernel
theorem dX10_next_16 : decode cX10_next 16 = .ok (.putfield 247, 3) := by decide +kernel
theorem dX10_next_19 : decode cX10_next 19 = .ok (.aload_n 0, 1) := by decide +kernel
theorem dX10_next_20 : decode cX10_next 20 = .ok (.aload_n 0, 1) := by decide +kernel
theorem dX10_next_21 : decode cX10_next 21 = .ok (.getfield 94, 3) := by decide +kernel
theorem dX10_next_24 : decode cX10_next 24 = .ok (.aload_n 0, 1) := by decide +kernel
theorem dX10_next_25 : decode cX10_next 25 = .ok (.getfield 247, 3) := by decide +kernel
theorem dX10_next_28 : decode cX10_next 28 = .ok (.iaload, 1) := by decide +kernel
theorem dX10_next_29 : decode cX10_next 29 = .ok (.putfield 253, 3) := by decide +kernel
theorem dX10_next_32 : decode cX10_next 32 = .ok (.aload_n 0, 1) := by decide +kernel
theorem dX10_next_33 : decode cX10_next 33 = .ok (.aload_n 0, 1) := by decide +kernel
theorem dX10_next_34 : decode cX10_next 34 = .ok (.getfield 97, 3) := by decide +kernel
theorem dX10_next_37 : decode cX10_next 37 = .ok (.aload_n 0, 1) := by decide +kernel
theorem dX10_next_38 : decode cX10_next 38 = .ok (.getfield 247, 3) := by decide +kernel
theorem dX10_next_41 : decode cX10_next 41 = .ok (.iaload, 1) := by decide +kernel
theorem dX10_next_42 : decode cX10_next 42 = .ok (.putfield 256, 3) := by decide +kernel
theorem dX10_next_45 : decode cX10_next 45 = .ok (.aload_n 0, 1) := by decide +kernel
theorem dX10_next_46 : decode cX10_next 46 = .ok (.aload_n 0, 1) := by decide +kernel
theorem dX10_next_47 : decode cX10_next 47 = .ok (.getfield 100, 3) := by decide +kernel
theorem dX10_next_50 : decode cX10_next 50 = .ok (.aload_n 0, 1) := by decide +kernel
theorem dX10_next_51 : decode cX10_next 51 = .ok (.getfield 247, 3) := by decide +kernel
theorem dX10_next_54 : decode cX10_next 54 = .ok (.iaload, 1) := by decide +kernel
theorem dX10_next_55 : decode cX10_next 55 = .ok (.putfield 259, 3) := by decide +kernel
theorem dX10_next_58 : decode cX10_next 58 = .ok (.aload_n 0, 1) := by decide +kernel
theorem dX10_next_59 : decode cX10_next 59 = .ok (.iconst (-1), 1) := by decide +kernel
theorem dX10_next_60 : decode cX10_next 60 = .ok (.putfield 262, 3) := by decide +kernel
theorem dX10_next_63 : decode cX10_next 63 = .ok (.aload_n 0, 1) := by decide +kernel
theorem dX10_next_64 : decode cX10_next 64 = .ok (.getfield 253, 3) := by decide +kernel
theorem dX10_next_67 : decode cX10_next 67 = .ok (.bipush 100, 2) := by decide +kernel
theorem dX10_next_69 : decode cX10_next 69 = .ok (.if_icmp .ge 142, 3) := by decide +kernel
theorem dX10_next_72 : decode cX10_next 72 = .ok (.aload_n 0, 1) := by decide +kernel
theorem dX10_next_73 : decode cX10_next 73 = .ok (.getfield 88, 3) := by decide +kernel
theorem dX10_next_76 : decode cX10_next 76 = .ok (.bipush 30, 2) := by decide +kernel
theorem dX10_next_78 : decode cX10_next 78 = .ok (.aload_n 0, 1) := by decide +kernel
theorem dX10_next_79 : decode cX10_next 79 = .ok (.getfield 253, 3) := by decide +kernel
theorem dX10_next_82 : decode cX10_next 82 = .ok (.aload_n 0, 1) := by decide +kernel
theorem dX10_next_83 : decode cX10_next 83 = .ok (.getfield 256, 3) := by decide +kernel
theorem dX10_next_86 : decode cX10_next 86 = .ok (.aload_n 0, 1) := by decide +kernel
theorem dX10_next_87 : decode cX10_next 87 = .ok (.getfield 259, 3) := by decide +kernel
theorem dX10_next_90 : decode cX10_next 90 = .ok (.invokestatic 198, 3) := by decide +kernel
theorem dX10_next_93 : decode cX10_next 93 = .ok (.imul, 1) := by decide +kernel
theorem dX10_next_94 : decode cX10_next 94 = .ok (.aload_n 0, 1) := by decide +kernel
theorem dX10_next_95 : decode cX10_next 95 = .ok (.getfield 103, 3) := by decide +kernel
theorem dX10_next_98 : decode cX10_next 98 = .ok (.aload_n 0, 1) := by decide +kernel
theorem dX10_next_99 : decode cX10_next 99 = .ok (.getfield 247, 3) := by decide +kernel
theorem dX10_next_102 : decode cX10_next 102 = .ok (.iaload, 1) := by decide +kernel
theorem dX10_next_103 : decode cX10_next 103 = .ok (.iadd, 1) := by decide +kernel
theorem dX10_next_104 : decode cX10_next 104 = .ok (.iaload, 1) := by decide +kernel
theorem dX10_next_105 : decode cX10_next 105 = .ok (.istore_n 1, 1) := by decide +kernel
theorem dX10_next_106 : decode cX10_next 106 = .ok (.iload_n 1, 1) := by decide +kernel
theorem dX10_next_107 : decode cX10_next 107 = .ok (.bipush 15, 2) := by decide +kernel
theorem dX10_next_109 : decode cX10_next 109 = .ok (.ishr, 1) := by decide +kernel
theorem dX10_next_110 : decode cX10_next 110 = .ok (.istore_n 2, 1) := by decide +kernel
theorem dX10_next_111 : decode cX10_next 111 = .ok (.iload_n 1, 1) := by decide +kernel
theorem dX10_next_112 : decode cX10_next 112 = .ok (.bipush 10, 2) := by decide +kernel
theorem dX10_next_114 : decode cX10_next 114 = .ok (.ishr, 1) := by decide +kernel
theorem dX10_next_115 : decode cX10_next 115 = .ok (.bipush 31, 2) := by decide +kernel
theorem dX10_next_117 : decode cX10_next 117 = .ok (.iand, 1) := by decide +kernel
theorem dX10_next_118 : decode cX10_next 118 = .ok (.istore_n 3, 1) := by decide +kernel
theorem dX10_next_119 : decode cX10_next 119 = .ok (.iload_n 1, 1) := by decide +kernel
theorem dX10_next_120 : decode cX10_next 120 = .ok (.iconst 5, 1) := by decide +kernel
theorem dX10_next_121 : decode cX10_next 121 = .ok (.ishr, 1) := by decide +kernel
theorem dX10_next_122 : decode cX10_next 122 = .ok (.bipush 31, 2) := by decide +kernel
theorem dX10_next_124 : decode cX10_next 124 = .ok (.iand, 1) := by decide +kernel
theorem dX10_next_125 : decode cX10_next 125 = .ok (.istore 4, 2) := by decide +kernel
theorem dX10_next_127 : decode cX10_next 127 = .ok (.iload_n 1, 1) := by decide +kernel
theorem dX10_next_128 : decode cX10_next 128 = .ok (.bipush 31, 2) := by decide +kernel
theorem dX10_next_130 : decode cX10_next 130 = .ok (.iand, 1) := by decide +kernel
theorem dX10_next_131 : decode cX10_next 131 = .ok (.istore 5, 2) := by decide +kernel
theorem dX10_next_133 : decode cX10_next 133 = .ok (.aload_n 0, 1) := by decide +kernel
theorem dX10_next_134 : decode cX10_next 134 = .ok (.iload_n 2, 1) := by decide +kernel
theorem dX10_next_135 : decode cX10_next 135 = .ok (.putfield 262, 3) := by decide +kernel
theorem dX10_next_138 : decode cX10_next 138 = .ok (.iload_n 3, 1) := by decide +kernel
theorem dX10_next_139 : decode cX10_next 139 = .ok (.ifCond .ne 26, 3) := by decide +kernel
theorem dX10_next_142 : decode cX10_next 142 = .ok (.aload_n 0, 1) := by decide +kernel
theorem dX10_next_143 : decode cX10_next 143 = .ok (.aload_n 0, 1) := by decide +kernel
theorem dX10_next_144 : decode cX10_next 144 = .ok (.getfield 59, 3) := by decide +kernel
theorem dX10_next_147 : decode cX10_next 147 = .ok (.iload_n 2, 1) := by decide +kernel
theorem dX10_next_148 : decode cX10_next 148 = .ok (.iaload, 1) := by decide +kernel
theorem dX10_next_149 : decode cX10_next 149 = .ok (.aload_n 0, 1) := by decide +kernel
theorem dX10_next_150 : decode cX10_next 150 = .ok (.getfield 256, 3) := by decide +kernel
theorem dX10_next_153 : decode cX10_next 153 = .ok (.aload_n 0, 1) := by decide +kernel
theorem dX10_next_154 : decode cX10_next 154 = .ok (.getfield 259, 3) := by decide +kernel
theorem dX10_next_157 : decode cX10_next 157 = .ok (.iload 4, 2) := by decide +kernel
theorem dX10_next_159 : decode cX10_next 159 = .ok (.invokevirtual 250, 3) := by decide +kernel
theorem dX10_next_162 : decode cX10_next 162 = .ok (.goto 49, 3) := by decide +kernel
theorem dX10_next_165 : decode cX10_next 165 = .ok (.aload_n 0, 1) := by decide +kernel
theorem dX10_next_166 : decode cX10_next 166 = .ok (.aload_n 0, 1) := by decide +kernel
theorem dX10_next_167 : decode cX10_next 167 = .ok (.getfield 62, 3) := by decide +kernel
theorem dX10_next_170 : decode cX10_next 170 = .ok (.iload_n 2, 1) := by decide +kernel
theorem dX10_next_171 : decode cX10_next 171 = .ok (.iaload, 1) := by decide +kernel
theorem dX10_next_172 : decode cX10_next 172 = .ok (.aload_n 0, 1) := by decide +kernel
theorem dX10_next_173 : decode cX10_next 173 = .ok (.getfield 256, 3) := by decide +kernel
theorem dX10_next_176 : decode cX10_next 176 = .ok (.iload_n 3, 1) := by decide +kernel
theorem dX10_next_177 : decode cX10_next 177 = .ok (.iadd, 1) := by decide +kernel
theorem dX10_next_178 : decode cX10_next 178 = .ok (.aload_n 0, 1) := by decide +kernel
theorem dX10_next_179 : decode cX10_next 179 = .ok (.getfield 259, 3) := by decide +kernel
theorem dX10_next_182 : decode cX10_next 182 = .ok (.iload 5, 2) := by decide +kernel
theorem dX10_next_184 : decode cX10_next 184 = .ok (.invokevirtual 250, 3) := by decide +kernel
theorem dX10_next_187 : decode cX10_next 187 = .ok (.aload_n 0, 1) := by decide +kernel
theorem dX10_next_188 : decode cX10_next 188 = .ok (.aload_n 0, 1) := by decide +kernel
theorem dX10_next_189 : decode cX10_next 189 = .ok (.getfield 59, 3) := by decide +kernel
theorem dX10_next_192 : decode cX10_next 192 = .ok (.iload_n 2, 1) := by decide +kernel
theorem dX10_next_193 : decode cX10_next 193 = .ok (.iaload, 1) := by decide +kernel
theorem dX10_next_194 : decode cX10_next 194 = .ok (.aload_n 0, 1) := by decide +kernel
theorem dX10_next_195 : decode cX10_next 195 = .ok (.getfield 256, 3) := by decide +kernel
theorem dX10_next_198 : decode cX10_next 198 = .ok (.aload_n 0, 1) := by decide +kernel
theorem dX10_next_199 : decode cX10_next 199 = .ok (.getfield 256, 3) := by decide +kernel
theorem dX10_next_202 : decode cX10_next 202 = .ok (.iload_n 3, 1) := by decide +kernel
theorem dX10_next_203 : decode cX10_next 203 = .ok (.iadd, 1) := by decide +kernel
theorem dX10_next_204 : decode cX10_next 204 = .ok (.iconst 1, 1) := by decide +kernel
theorem dX10_next_205 : decode cX10_next 205 = .ok (.isub, 1) := by decide +kernel
theorem dX10_next_206 : decode cX10_next 206 = .ok (.iload 4, 2) := by decide +kernel
theorem dX10_next_208 : decode cX10_next 208 = .ok (.invokevirtual 250, 3) := by decide +kernel
theorem dX10_next_211 : decode cX10_next 211 = .ok (.iconst 1, 1) := by decide +kernel
theorem dX10_next_212 : decode cX10_next 212 = .ok (.ireturn, 1) := by decide +kernel
theorem dX10_nodeChord_0 : decode cX10_nodeChord 0 = .ok (.aload_n 0, 1) := by decide +kernel
theorem dX10_nodeChord_1 : decode cX10_nodeChord 1 = .ok (.getfield 253, 3) := by decide +kernel
theorem dX10_nodeChord_4 : decode cX10_nodeChord 4 = .ok (.bipush 100, 2) := by decide +kernel
theorem dX10_nodeChord_6 : decode cX10_nodeChord 6 = .ok (.if_icmp .ge 7, 3) := by decide +kernel
theorem dX10_nodeChord_9 : decode cX10_nodeChord 9 = .ok (.iconst (-1), 1) := by decide +kernel
theorem dX10_nodeChord_10 : decode cX10_nodeChord 10 = .ok (.goto 23, 3) := by decide +kernel
theorem dX10_nodeChord_13 : decode cX10_nodeChord 13 = .ok (.aload_n 0, 1) := by decide +kernel
theorem dX10_nodeChord_14 : decode cX10_nodeChord 14 = .ok (.getfield 71, 3) := by decide +kernel
theorem dX10_nodeChord_17 : decode cX10_nodeChord 17 = .ok (.bipush 24, 2) := by decide +kernel
theorem dX10_nodeChord_19 : decode cX10_nodeChord 19 = .ok (.aload_n 0, 1) := by decide +kernel
theorem dX10_nodeChord_20 : decode cX10_nodeChord 20 = .ok (.getfield 253, 3) := by decide +kernel
theorem dX10_nodeChord_23 : decode cX10_nodeChord 23 = .ok (.bipush 100, 2) := by decide +kernel
theorem dX10_nodeChord_25 : decode cX10_nodeChord 25 = .ok (.isub, 1) := by decide +kernel
theorem dX10_nodeChord_26 : decode cX10_nodeChord 26 = .ok (.imul, 1) := by decide +kernel
theorem dX10_nodeChord_27 : decode cX10_nodeChord 27 = .ok (.aload_n 0, 1) := by decide +kernel
theorem dX10_nodeChord_28 : decode cX10_nodeChord 28 = .ok (.getfield 256, 3) := by decide +kernel
theorem dX10_nodeChord_31 : decode cX10_nodeChord 31 = .ok (.iadd, 1) := by decide +kernel
theorem dX10_nodeChord_32 : decode cX10_nodeChord 32 = .ok (.iaload, 1) := by decide +kernel
theorem dX10_nodeChord_33 : decode cX10_nodeChord 33 = .ok (.ireturn, 1) := by decide +kernel
theorem dX10_node_0 : decode cX10_node 0 = .ok (.aload_n 0, 1) := by decide +kernel
theorem dX10_node_1 : decode cX10_node 1 = .ok (.iconst 0, 1) := by decide +kernel
theorem dX10_node_2 : decode cX10_node 2 = .ok (.putfield 106, 3) := by decide +kernel
theorem dX10_node_5 : decode cX10_node 5 = .ok (.aload_n 0, 1) := by decide +kernel
theorem dX10_node_6 : decode cX10_node 6 = .ok (.iload_n 1, 1) := by decide +kernel
theorem dX10_node_7 : decode cX10_node 7 = .ok (.invokevirtual 244, 3) := by decide +kernel
theorem dX10_node_10 : decode cX10_node 10 = .ok (.ifCond .ne 16, 3) := by decide +kernel
theorem dX10_node_13 : decode cX10_node 13 = .ok (.iload_n 2, 1) := by decide +kernel
theorem dX10_node_14 : decode cX10_node 14 = .ok (.ifCond .lt 12, 3) := by decide +kernel
theorem dX10_node_17 : decode cX10_node 17 = .ok (.iload_n 3, 1) := by decide +kernel
theorem dX10_node_18 : decode cX10_node 18 = .ok (.ifCond .lt 8, 3) := by decide +kernel
theorem dX10_node_21 : decode cX10_node 21 = .ok (.iload_n 3, 1) := by decide +kernel
theorem dX10_node_22 : decode cX10_node 22 = .ok (.iconst 3, 1) := by decide +kernel
theorem dX10_node_23 : decode cX10_node 23 = .ok (.if_icmp .le 5, 3) := by decide +kernel
theorem dX10_node_26 : decode cX10_node 26 = .ok (.iconst (-1), 1) := by decide +kernel
theorem dX10_node_27 : decode cX10_node 27 = .ok (.ireturn, 1) := by decide +kernel
theorem dX10_node_28 : decode cX10_node 28 = .ok (.aload_n 0, 1) := by decide +kernel
theorem dX10_node_29 : decode cX10_node 29 = .ok (.iload_n 1, 1) := by decide +kernel
theorem dX10_node_30 : decode cX10_node 30 = .ok (.invokevirtual 265, 3) := by decide +kernel
theorem dX10_node_33 : decode cX10_node 33 = .ok (.aload_n 0, 1) := by decide +kernel
theorem dX10_node_34 : decode cX10_node 34 = .ok (.invokevirtual 268, 3) := by decide +kernel
theorem dX10_node_37 : decode cX10_node 37 = .ok (.istore 4, 2) := by decide +kernel
theorem dX10_node_39 : decode cX10_node 39 = .ok (.iconst 0, 1) := by decide +kernel
theorem dX10_node_40 : decode cX10_node 40 = .ok (.istore 5, 2) := by decide +kernel
theorem dX10_node_42 : decode cX10_node 42 = .ok (.iload 5, 2) := by decide +kernel
theorem dX10_node_44 : decode cX10_node 44 = .ok (.iload_n 2, 1) := by decide +kernel
theorem dX10_node_45 : decode cX10_node 45 = .ok (.if_icmp .ge 20, 3) := by decide +kernel
theorem dX10_node_48 : decode cX10_node 48 = .ok (.iload 4, 2) := by decide +kernel
theorem dX10_node_50 : decode cX10_node 50 = .ok (.ifCond .eq 15, 3) := by decide +kernel
theorem dX10_node_53 : decode cX10_node 53 = .ok (.aload_n 0, 1) := by decide +kernel
theorem dX10_node_54 : decode cX10_node 54 = .ok (.invokevirtual 268, 3) := by decide +kernel
theorem dX10_node_57 : decode cX10_node 57 = .ok (.istore 4, 2) := by decide +kernel
theorem dX10_node_59 : decode cX10_node 59 = .ok (.iinc 5 1, 3) := by decide +kernel
theorem dX10_node_62 : decode cX10_node 62 = .ok (.goto (-20), 3) := by decide +kernel
theorem dX10_node_65 : decode cX10_node 65 = .ok (.iload 4, 2) := by decide +kernel
theorem dX10_node_67 : decode cX10_node 67 = .ok (.ifCond .ne 5, 3) := by decide +kernel
theorem dX10_node_70 : decode cX10_node 70 = .ok (.iconst (-1), 1) := by decide +kernel
theorem dX10_node_71 : decode cX10_node 71 = .ok (.ireturn, 1) := by decide +kernel
theorem dX10_node_72 : decode cX10_node 72 = .ok (.iload_n 3, 1) := by decide +kernel
theorem dX10_node_73 : decode cX10_node 73 = .ok (.ifCond .ne 10, 3) := by decide +kernel
theorem dX10_node_76 : decode cX10_node 76 = .ok (.aload_n 0, 1) := by decide +kernel
theorem dX10_node_77 : decode cX10_node 77 = .ok (.getfield 262, 3) := by decide +kernel
theorem dX10_node_80 : decode cX10_node 80 = .ok (.goto 31, 3) := by decide +kernel
theorem dX10_node_83 : decode cX10_node 83 = .ok (.iload_n 3, 1) := by decide +kernel
theorem dX10_node_84 : decode cX10_node 84 = .ok (.iconst 1, 1) := by decide +kernel
theorem dX10_node_85 : decode cX10_node 85 = .ok (.if_icmp .ne 10, 3) := by decide +kernel
theorem dX10_node_88 : decode cX10_node 88 = .ok (.aload_n 0, 1) := by decide +kernel
theorem dX10_node_89 : decode cX10_node 89 = .ok (.getfield 256, 3) := by decide +kernel
theorem dX10_node_92 : decode cX10_node 92 = .ok (.goto 19, 3) := by decide +kernel
theorem dX10_node_95 : decode cX10_node 95 = .ok (.iload_n 3, 1) := by decide +kernel
theorem dX10_node_96 : decode cX10_node 96 = .ok (.iconst 2, 1) := by decide +kernel
theorem dX10_node_97 : decode cX10_node 97 = .ok (.if_icmp .ne 10, 3) := by decide +kernel
theorem dX10_node_100 : decode cX10_node 100 = .ok (.aload_n 0, 1) := by decide +kernel
theorem dX10_node_101 : decode cX10_node 101 = .ok (.getfield 259, 3) := by decide +kernel
theorem dX10_node_104 : decode cX10_node 104 = .ok (.goto 7, 3) := by decide +kernel
theorem dX10_node_107 : decode cX10_node 107 = .ok (.aload_n 0, 1) := by decide +kernel
theorem dX10_node_108 : decode cX10_node 108 = .ok (.invokevirtual 271, 3) := by decide +kernel
theorem dX10_node_111 : decode cX10_node 111 = .ok (.ireturn, 1) := by decide +kernel
theorem dX10_nodes_0 : decode cX10_nodes 0 = .ok (.aload_n 0, 1) := by decide +kernel
theorem dX10_nodes_1 : decode cX10_nodes 1 = .ok (.iconst 0, 1) := by decide +kernel
theorem dX10_nodes_2 : decode cX10_nodes 2 = .ok (.putfield 106, 3) := by decide +kernel
theorem dX10_nodes_5 : decode cX10_nodes 5 = .ok (.aload_n 0, 1) := by decide +kernel
theorem dX10_nodes_6 : decode cX10_nodes 6 = .ok (.iload_n 1, 1) := by decide +kernel
theorem dX10_nodes_7 : decode cX10_nodes 7 = .ok (.invokevirtual 244, 3) := by decide +kernel
theorem dX10_nodes_10 : decode cX10_nodes 10 = .ok (.ifCond .eq 5, 3) := by decide +kernel
theorem dX10_nodes_13 : decode cX10_nodes 13 = .ok (.iconst (-1), 1) := by decide +kernel
theorem dX10_nodes_14 : decode cX10_nodes 14 = .ok (.ireturn, 1) := by decide +kernel
theorem dX10_nodes_15 : decode cX10_nodes 15 = .ok (.aload_n 0, 1) := by decide +kernel
theorem dX10_nodes_16 : decode cX10_nodes 16 = .ok (.iload_n 1, 1) := by decide +kernel
theorem dX10_nodes_17 : decode cX10_nodes 17 = .ok (.invokevirtual 265, 3) := by decide +kernel
theorem dX10_nodes_20 : decode cX10_nodes 20 = .ok (.iconst 0, 1) := by decide +kernel
theorem dX10_nodes_21 : decode cX10_nodes 21 = .ok (.istore_n 2, 1) := by decide +kernel
theorem dX10_nodes_22 : decode cX10_nodes 22 = .ok (.aload_n 0, 1) := by decide +kernel
theorem dX10_nodes_23 : decode cX10_nodes 23 = .ok (.invokevirtual 268, 3) := by decide +kernel
theorem dX10_nodes_26 : decode cX10_nodes 26 = .ok (.ifCond .eq 9, 3) := by decide +kernel
theorem dX10_nodes_29 : decode cX10_nodes 29 = .ok (.iinc 2 1, 3) := by decide +kernel
theorem dX10_nodes_32 : decode cX10_nodes 32 = .ok (.goto (-10), 3) := by decide +kernel
theorem dX10_nodes_35 : decode cX10_nodes 35 = .ok (.iload_n 2, 1) := by decide +kernel
theorem dX10_nodes_36 : decode cX10_nodes 36 = .ok (.ireturn, 1) := by decide +kernel
theorem dX10_symbolAt_0 : decode cX10_symbolAt 0 = .ok (.aload_n 0, 1) := by decide +kernel
theorem dX10_symbolAt_1 : decode cX10_symbolAt 1 = .ok (.iload_n 1, 1) := by decide +kernel
theorem dX10_symbolAt_2 : decode cX10_symbolAt 2 = .ok (.invokevirtual 265, 3) := by decide +kernel
theorem dX10_symbolAt_5 : decode cX10_symbolAt 5 = .ok (.aload_n 0, 1) := by decide +kernel
theorem dX10_symbolAt_6 : decode cX10_symbolAt 6 = .ok (.invokevirtual 268, 3) := by decide +kernel
theorem dX10_symbolAt_9 : decode cX10_symbolAt 9 = .ok (.ifCond .eq 28, 3) := by decide +kernel
theorem dX10_symbolAt_12 : decode cX10_symbolAt 12 = .ok (.aload_n 0, 1) := by decide +kernel
theorem dX10_symbolAt_13 : decode cX10_symbolAt 13 = .ok (.getfield 253, 3) := by decide +kernel
theorem dX10_symbolAt_16 : decode cX10_symbolAt 16 = .ok (.bipush 100, 2) := by decide +kernel
theorem dX10_symbolAt_18 : decode cX10_symbolAt 18 = .ok (.if_icmp .lt (-13), 3) := by decide +kernel
theorem dX10_symbolAt_21 : decode cX10_symbolAt 21 = .ok (.aload_n 0, 1) := by decide +kernel
theorem dX10_symbolAt_22 : decode cX10_symbolAt 22 = .ok (.getfield 256, 3) := by decide +kernel
theorem dX10_symbolAt_25 : decode cX10_symbolAt 25 = .ok (.iload_n 2, 1) := by decide +kernel
theorem dX10_symbolAt_26 : decode cX10_symbolAt 26 = .ok (.if_icmp .ne (-21), 3) := by decide +kernel
theorem dX10_symbolAt_29 : decode cX10_symbolAt 29 = .ok (.aload_n 0, 1) := by decide +kernel
theorem dX10_symbolAt_30 : decode cX10_symbolAt 30 = .ok (.getfield 253, 3) := by decide +kernel
theorem dX10_symbolAt_33 : decode cX10_symbolAt 33 = .ok (.bipush 100, 2) := by decide +kernel
theorem dX10_symbolAt_35 : decode cX10_symbolAt 35 = .ok (.isub, 1) := by decide +kernel
theorem dX10_symbolAt_36 : decode cX10_symbolAt 36 = .ok (.ireturn, 1) := by decide +kernel
theorem dX10_symbolAt_37 : decode cX10_symbolAt 37 = .ok (.iconst (-1), 1) := by decide +kernel
theorem dX10_symbolAt_38 : decode cX10_symbolAt 38 = .ok (.ireturn, 1) := by decide +kernel
theorem dX10_chord_0 : decode cX10_chord 0 = .ok (.aload_n 0, 1) := by decide +kernel
theorem dX10_chord_1 : decode cX10_chord 1 = .ok (.iconst 0, 1) := by decide +kernel
theorem dX10_chord_2 : decode cX10_chord 2 = .ok (.putfield 106, 3) := by decide +kernel
theorem dX10_chord_5 : decode cX10_chord 5 = .ok (.aload_n 0, 1) := by decide +kernel
theorem dX10_chord_6 : decode cX10_chord 6 = .ok (.iload_n 1, 1) := by decide +kernel
theorem dX10_chord_7 : decode cX10_chord 7 = .ok (.invokevirtual 244, 3) := by decide +kernel
theorem dX10_chord_10 : decode cX10_chord 10 = .ok (.ifCond .ne 15, 3) := by decide +kernel
theorem dX10_chord_13 : decode cX10_chord 13 = .ok (.iload_n 2, 1) := by decide +kernel
theorem dX10_chord_14 : decode cX10_chord 14 = .ok (.ifCond .lt 11, 3) := by decide +kernel
theorem dX10_chord_17 : decode cX10_chord 17 = .ok (.iload_n 2, 1) := by decide +kernel
theorem dX10_chord_18 : decode cX10_chord 18 = .ok (.aload_n 0, 1) := by decide +kernel
theorem dX10_chord_19 : decode cX10_chord 19 = .ok (.getfield 192, 3) := by decide +kernel
theorem dX10_chord_22 : decode cX10_chord 22 = .ok (.if_icmp .lt 5, 3) := by decide +kernel
theorem dX10_chord_25 : decode cX10_chord 25 = .ok (.iconst (-1), 1) := by decide +kernel
theorem dX10_chord_26 : decode cX10_chord 26 = .ok (.ireturn, 1) := by decide +kernel
theorem dX10_chord_27 : decode cX10_chord 27 = .ok (.aload_n 0, 1) := by decide +kernel
theorem dX10_chord_28 : decode cX10_chord 28 = .ok (.getfield 71, 3) := by decide +kernel
theorem dX10_chord_31 : decode cX10_chord 31 = .ok (.bipush 24, 2) := by decide +kernel
theorem dX10_chord_33 : decode cX10_chord 33 = .ok (.aload_n 0, 1) := by decide +kernel
theorem dX10_chord_34 : decode cX10_chord 34 = .ok (.iload_n 1, 1) := by decide +kernel
theorem dX10_chord_35 : decode cX10_chord 35 = .ok (.iload_n 2, 1) := by decide +kernel
theorem dX10_chord_36 : decode cX10_chord 36 = .ok (.invokevirtual 274, 3) := by decide +kernel
theorem dX10_chord_39 : decode cX10_chord 39 = .ok (.imul, 1) := by decide +kernel
theorem dX10_chord_40 : decode cX10_chord 40 = .ok (.iload_n 2, 1) := by decide +kernel
theorem dX10_chord_41 : decode cX10_chord 41 = .ok (.iadd, 1) := by decide +kernel
theorem dX10_chord_42 : decode cX10_chord 42 = .ok (.iaload, 1) := by decide +kernel
theorem dX10_chord_43 : decode cX10_chord 43 = .ok (.ireturn, 1) := by decide +kernel
theorem dX10_cadence_0 : decode cX10_cadence 0 = .ok (.aload_n 0, 1) := by decide +kernel
theorem dX10_cadence_1 : decode cX10_cadence 1 = .ok (.iconst 0, 1) := by decide +kernel
theorem dX10_cadence_2 : decode cX10_cadence 2 = .ok (.putfield 106, 3) := by decide +kernel
theorem dX10_cadence_5 : decode cX10_cadence 5 = .ok (.aload_n 0, 1) := by decide +kernel
theorem dX10_cadence_6 : decode cX10_cadence 6 = .ok (.iload_n 1, 1) := by decide +kernel
theorem dX10_cadence_7 : decode cX10_cadence 7 = .ok (.invokevirtual 244, 3) := by decide +kernel
theorem dX10_cadence_10 : decode cX10_cadence 10 = .ok (.ifCond .eq 5, 3) := by decide +kernel
theorem dX10_cadence_13 : decode cX10_cadence 13 = .ok (.iconst (-1), 1) := by decide +kernel
theorem dX10_cadence_14 : decode cX10_cadence 14 = .ok (.ireturn, 1) := by decide +kernel
theorem dX10_cadence_15 : decode cX10_cadence 15 = .ok (.aload_n 0, 1) := by decide +kernel
theorem dX10_cadence_16 : decode cX10_cadence 16 = .ok (.iload_n 1, 1) := by decide +kernel
theorem dX10_cadence_17 : decode cX10_cadence 17 = .ok (.aload_n 0, 1) := by decide +kernel
theorem dX10_cadence_18 : decode cX10_cadence 18 = .ok (.getfield 192, 3) := by decide +kernel
theorem dX10_cadence_21 : decode cX10_cadence 21 = .ok (.iconst 1, 1) := by decide +kernel
theorem dX10_cadence_22 : decode cX10_cadence 22 = .ok (.isub, 1) := by decide +kernel
theorem dX10_cadence_23 : decode cX10_cadence 23 = .ok (.invokevirtual 274, 3) := by decide +kernel
theorem dX10_cadence_26 : decode cX10_cadence 26 = .ok (.bipush 10, 2) := by decide +kernel
theorem dX10_cadence_28 : decode cX10_cadence 28 = .ok (.idiv, 1) := by decide +kernel
theorem dX10_cadence_29 : decode cX10_cadence 29 = .ok (.istore_n 2, 1) := by decide +kernel
theorem dX10_cadence_30 : decode cX10_cadence 30 = .ok (.aload_n 0, 1) := by decide +kernel
theorem dX10_cadence_31 : decode cX10_cadence 31 = .ok (.getfield 192, 3) := by decide +kernel
theorem dX10_cadence_34 : decode cX10_cadence 34 = .ok (.iconst 2, 1) := by decide +kernel
theorem dX10_cadence_35 : decode cX10_cadence 35 = .ok (.if_icmp .ge 7, 3) := by decide +kernel
theorem dX10_cadence_38 : decode cX10_cadence 38 = .ok (.iconst 0, 1) := by decide +kernel
theorem dX10_cadence_39 : decode cX10_cadence 39 = .ok (.goto 17, 3) := by decide +kernel
theorem dX10_cadence_42 : decode cX10_cadence 42 = .ok (.aload_n 0, 1) := by decide +kernel
theorem dX10_cadence_43 : decode cX10_cadence 43 = .ok (.iload_n 1, 1) := by decide +kernel
theorem dX10_cadence_44 : decode cX10_cadence 44 = .ok (.aload_n 0, 1) := by decide +kernel
theorem dX10_cadence_45 : decode cX10_cadence 45 = .ok (.getfield 192, 3) := by decide +kernel
theorem dX10_cadence_48 : decode cX10_cadence 48 = .ok (.iconst 2, 1) := by decide +kernel
theorem dX10_cadence_49 : decode cX10_cadence 49 = .ok (.isub, 1) := by decide +kernel
theorem dX10_cadence_50 : decode cX10_cadence 50 = .ok (.invokevirtual 274, 3) := by decide +kernel
theorem dX10_cadence_53 : decode cX10_cadence 53 = .ok (.bipush 10, 2) := by decide +kernel
theorem dX10_cadence_55 : decode cX10_cadence 55 = .ok (.idiv, 1) := by decide +kernel
theorem dX10_cadence_56 : decode cX10_cadence 56 = .ok (.istore_n 3, 1) := by decide +kernel
theorem dX10_cadence_57 : decode cX10_cadence 57 = .ok (.iload_n 2, 1) := by decide +kernel
theorem dX10_cadence_58 : decode cX10_cadence 58 = .ok (.iconst 1, 1) := by decide +kernel
theorem dX10_cadence_59 : decode cX10_cadence 59 = .ok (.if_icmp .ne 12, 3) := by decide +kernel
theorem dX10_cadence_62 : decode cX10_cadence 62 = .ok (.iload_n 3, 1) := by decide +kernel
theorem dX10_cadence_63 : decode cX10_cadence 63 = .ok (.iconst 5, 1) := by decide +kernel
theorem dX10_cadence_64 : decode cX10_cadence 64 = .ok (.if_icmp .ne 7, 3) := by decide +kernel
theorem dX10_cadence_67 : decode cX10_cadence 67 = .ok (.iconst 1, 1) := by decide +kernel
theorem dX10_cadence_68 : decode cX10_cadence 68 = .ok (.goto 42, 3) := by decide +kernel
theorem dX10_cadence_71 : decode cX10_cadence 71 = .ok (.iload_n 2, 1) := by decide +kernel
theorem dX10_cadence_72 : decode cX10_cadence 72 = .ok (.iconst 1, 1) := by decide +kernel
theorem dX10_cadence_73 : decode cX10_cadence 73 = .ok (.if_icmp .ne 12, 3) := by decide +kernel
theorem dX10_cadence_76 : decode cX10_cadence 76 = .ok (.iload_n 3, 1) := by decide +kernel
theorem dX10_cadence_77 : decode cX10_cadence 77 = .ok (.iconst 4, 1) := by decide +kernel
theorem dX10_cadence_78 : decode cX10_cadence 78 = .ok (.if_icmp .ne 7, 3) := by decide +kernel
theorem dX10_cadence_81 : decode cX10_cadence 81 = .ok (.iconst 2, 1) := by decide +kernel
theorem dX10_cadence_82 : decode cX10_cadence 82 = .ok (.goto 28, 3) := by decide +kernel
theorem dX10_cadence_85 : decode cX10_cadence 85 = .ok (.iload_n 2, 1) := by decide +kernel
theorem dX10_cadence_86 : decode cX10_cadence 86 = .ok (.iconst 5, 1) := by decide +kernel
theorem dX10_cadence_87 : decode cX10_cadence 87 = .ok (.if_icmp .ne 7, 3) := by decide +kernel
theorem dX10_cadence_90 : decode cX10_cadence 90 = .ok (.iconst 3, 1) := by decide +kernel
theorem dX10_cadence_91 : decode cX10_cadence 91 = .ok (.goto 19, 3) := by decide +kernel
theorem dX10_cadence_94 : decode cX10_cadence 94 = .ok (.iload_n 2, 1) := by decide +kernel
theorem dX10_cadence_95 : decode cX10_cadence 95 = .ok (.bipush 6, 2) := by decide +kernel
theorem dX10_cadence_97 : decode cX10_cadence 97 = .ok (.if_icmp .ne 12, 3) := by decide +kernel
theorem dX10_cadence_100 : decode cX10_cadence 100 = .ok (.iload_n 3, 1) := by decide +kernel
theorem dX10_cadence_101 : decode cX10_cadence 101 = .ok (.iconst 5, 1) := by decide +kernel
theorem dX10_cadence_102 : decode cX10_cadence 102 = .ok (.if_icmp .ne 7, 3) := by decide +kernel
theorem dX10_cadence_105 : decode cX10_cadence 105 = .ok (.iconst 4, 1) := by decide +kernel
theorem dX10_cadence_106 : decode cX10_cadence 106 = .ok (.goto 4, 3) := by decide +kernel
theorem dX10_cadence_109 : decode cX10_cadence 109 = .ok (.iconst 0, 1) := by decide +kernel
theorem dX10_cadence_110 : decode cX10_cadence 110 = .ok (.ireturn, 1) := by decide +kernel
theorem dX10_isStep_0 : decode cX10_isStep 0 = .ok (.iload_n 0, 1) := by decide +kernel
theorem dX10_isStep_1 : decode cX10_isStep 1 = .ok (.iconst 1, 1) := by decide +kernel
theorem dX10_isStep_2 : decode cX10_isStep 2 = .ok (.if_icmp .eq 19, 3) := by decide +kernel
theorem dX10_isStep_5 : decode cX10_isStep 5 = .ok (.iload_n 0, 1) := by decide +kernel
theorem dX10_isStep_6 : decode cX10_isStep 6 = .ok (.iconst 2, 1) := by decide +kernel
theorem dX10_isStep_7 : decode cX10_isStep 7 = .ok (.if_icmp .eq 14, 3) := by decide +kernel
theorem dX10_isStep_10 : decode cX10_isStep 10 = .ok (.iload_n 0, 1) := by decide +kernel
theorem dX10_isStep_11 : decode cX10_isStep 11 = .ok (.iconst (-1), 1) := by decide +kernel
theorem dX10_isStep_12 : decode cX10_isStep 12 = .ok (.if_icmp .eq 9, 3) := by decide +kernel
theorem dX10_isStep_15 : decode cX10_isStep 15 = .ok (.iload_n 0, 1) := by decide +kernel
theorem dX10_isStep_16 : decode cX10_isStep 16 = .ok (.bipush (-2), 2) := by decide +kernel
theorem dX10_isStep_18 : decode cX10_isStep 18 = .ok (.if_icmp .ne 7, 3) := by decide +kernel
theorem dX10_isStep_21 : decode cX10_isStep 21 = .ok (.iconst 1, 1) := by decide +kernel
theorem dX10_isStep_22 : decode cX10_isStep 22 = .ok (.goto 4, 3) := by decide +kernel
theorem dX10_isStep_25 : decode cX10_isStep 25 = .ok (.iconst 0, 1) := by decide +kernel
theorem dX10_isStep_26 : decode cX10_isStep 26 = .ok (.ireturn, 1) := by decide +kernel
theorem dX10_isMore_0 : decode cX10_isMore 0 = .ok (.iload_n 0, 1) := by decide +kernel
theorem dX10_isMore_1 : decode cX10_isMore 1 = .ok (.iconst 2, 1) := by decide +kernel
theorem dX10_isMore_2 : decode cX10_isMore 2 = .ok (.if_icmp .gt 9, 3) := by decide +kernel
theorem dX10_isMore_5 : decode cX10_isMore 5 = .ok (.iload_n 0, 1) := by decide +kernel
theorem dX10_isMore_6 : decode cX10_isMore 6 = .ok (.bipush (-2), 2) := by decide +kernel
theorem dX10_isMore_8 : decode cX10_isMore 8 = .ok (.if_icmp .ge 7, 3) := by decide +kernel
theorem dX10_isMore_11 : decode cX10_isMore 11 = .ok (.iconst 1, 1) := by decide +kernel
theorem dX10_isMore_12 : decode cX10_isMore 12 = .ok (.goto 4, 3) := by decide +kernel
theorem dX10_isMore_15 : decode cX10_isMore 15 = .ok (.iconst 0, 1) := by decide +kernel
theorem dX10_isMore_16 : decode cX10_isMore 16 = .ok (.ireturn, 1) := by decide +kernel
theorem dX10_isTurned_0 : decode cX10_isTurned 0 = .ok (.iload_n 0, 1) := by decide +kernel
theorem dX10_isTurned_1 : decode cX10_isTurned 1 = .ok (.ifCond .le 7, 3) := by decide +kernel
theorem dX10_isTurned_4 : decode cX10_isTurned 4 = .ok (.iload_n 1, 1) := by decide +kernel
theorem dX10_isTurned_5 : decode cX10_isTurned 5 = .ok (.ifCond .lt 11, 3) := by decide +kernel
theorem dX10_isTurned_8 : decode cX10_isTurned 8 = .ok (.iload_n 0, 1) := by decide +kernel
theorem dX10_isTurned_9 : decode cX10_isTurned 9 = .ok (.ifCond .ge 11, 3) := by decide +kernel
theorem dX10_isTurned_12 : decode cX10_isTurned 12 = .ok (.iload_n 1, 1) := by decide +kernel
theorem dX10_isTurned_13 : decode cX10_isTurned 13 = .ok (.ifCond .le 7, 3) := by decide +kernel
theorem dX10_isTurned_16 : decode cX10_isTurned 16 = .ok (.iconst 1, 1) := by decide +kernel
theorem dX10_isTurned_17 : decode cX10_isTurned 17 = .ok (.goto 4, 3) := by decide +kernel
theorem dX10_isTurned_20 : decode cX10_isTurned 20 = .ok (.iconst 0, 1) := by decide +kernel
theorem dX10_isTurned_21 : decode cX10_isTurned 21 = .ok (.ireturn, 1) := by decide +kernel
theorem dX10_melody_0 : decode cX10_melody 0 = .ok (.aload_n 0, 1) := by decide +kernel
theorem dX10_melody_1 : decode cX10_melody 1 = .ok (.iconst 0, 1) := by decide +kernel
theorem dX10_melody_2 : decode cX10_melody 2 = .ok (.putfield 106, 3) := by decide +kernel
theorem dX10_melody_5 : decode cX10_melody 5 = .ok (.aload_n 0, 1) := by decide +kernel
theorem dX10_melody_6 : decode cX10_melody 6 = .ok (.iload_n 1, 1) := by decide +kernel
theorem dX10_melody_7 : decode cX10_melody 7 = .ok (.invokevirtual 244, 3) := by decide +kernel
theorem dX10_melody_10 : decode cX10_melody 10 = .ok (.ifCond .ne 24, 3) := by decide +kernel
theorem dX10_melody_13 : decode cX10_melody 13 = .ok (.iload_n 2, 1) := by decide +kernel
theorem dX10_melody_14 : decode cX10_melody 14 = .ok (.ifCond .lt 20, 3) := by decide +kernel
theorem dX10_melody_17 : decode cX10_melody 17 = .ok (.iload_n 2, 1) := by decide +kernel
theorem dX10_melody_18 : decode cX10_melody 18 = .ok (.aload_n 0, 1) := by decide +kernel
theorem dX10_melody_19 : decode cX10_melody 19 = .ok (.getfield 192, 3) := by decide +kernel
theorem dX10_melody_22 : decode cX10_melody 22 = .ok (.if_icmp .ge 12, 3) := by decide +kernel
theorem dX10_melody_25 : decode cX10_melody 25 = .ok (.aload_n 0, 1) := by decide +kernel
theorem dX10_melody_26 : decode cX10_melody 26 = .ok (.getfield 68, 3) := by decide +kernel
theorem dX10_melody_29 : decode cX10_melody 29 = .ok (.iload_n 2, 1) := by decide +kernel
theorem dX10_melody_30 : decode cX10_melody 30 = .ok (.iaload, 1) := by decide +kernel
theorem dX10_melody_31 : decode cX10_melody 31 = .ok (.ifCond .ge 5, 3) := by decide +kernel
theorem dX10_melody_34 : decode cX10_melody 34 = .ok (.iconst (-1), 1) := by decide +kernel
theorem dX10_melody_35 : decode cX10_melody 35 = .ok (.ireturn, 1) := by decide +kernel
theorem dX10_melody_36 : decode cX10_melody 36 = .ok (.aload_n 0, 1) := by decide +kernel
theorem dX10_melody_37 : decode cX10_melody 37 = .ok (.getfield 68, 3) := by decide +kernel
theorem dX10_melody_40 : decode cX10_melody 40 = .ok (.iload_n 2, 1) := by decide +kernel
theorem dX10_melody_41 : decode cX10_melody 41 = .ok (.iaload, 1) := by decide +kernel
theorem dX10_melody_42 : decode cX10_melody 42 = .ok (.istore_n 3, 1) := by decide +kernel
theorem dX10_melody_43 : decode cX10_melody 43 = .ok (.aload_n 0, 1) := by decide +kernel
theorem dX10_melody_44 : decode cX10_melody 44 = .ok (.getfield 71, 3) := by decide +kernel
theorem dX10_melody_47 : decode cX10_melody 47 = .ok (.bipush 24, 2) := by decide +kernel
theorem dX10_melody_49 : decode cX10_melody 49 = .ok (.aload_n 0, 1) := by decide +kernel
theorem dX10_melody_50 : decode cX10_melody 50 = .ok (.iload_n 1, 1) := by decide +kernel
theorem dX10_melody_51 : decode cX10_melody 51 = .ok (.iload_n 2, 1) := by decide +kernel
theorem dX10_melody_52 : decode cX10_melody 52 = .ok (.invokevirtual 274, 3) := by decide +kernel
theorem dX10_melody_55 : decode cX10_melody 55 = .ok (.imul, 1) := by decide +kernel
theorem dX10_melody_56 : decode cX10_melody 56 = .ok (.iload_n 2, 1) := by decide +kernel
theorem dX10_melody_57 : decode cX10_melody 57 = .ok (.iadd, 1) := by decide +kernel
theorem dX10_melody_58 : decode cX10_melody 58 = .ok (.iaload, 1) := by decide +kernel
theorem dX10_melody_59 : decode cX10_melody 59 = .ok (.istore 4, 2) := by decide +kernel
theorem dX10_melody_61 : decode cX10_melody 61 = .ok (.iload 4, 2) := by decide +kernel
theorem dX10_melody_63 : decode cX10_melody 63 = .ok (.bipush 12, 2) := by decide +kernel
theorem dX10_melody_65 : decode cX10_melody 65 = .ok (.irem, 1) := by decide +kernel
theorem dX10_melody_66 : decode cX10_melody 66 = .ok (.iload 4, 2) := by decide +kernel
theorem dX10_melody_68 : decode cX10_melody 68 = .ok (.bipush 12, 2) := by decide +kernel
theorem dX10_melody_70 : decode cX10_melody 70 = .ok (.idiv, 1) := by decide +kernel
theorem dX10_melody_71 : decode cX10_melody 71 = .ok (.invokestatic 181, 3) := by decide +kernel
theorem dX10_melody_74 : decode cX10_melody 74 = .ok (.iload_n 3, 1) := by decide +kernel
theorem dX10_melody_75 : decode cX10_melody 75 = .ok (.bipush 12, 2) := by decide +kernel
theorem dX10_melody_77 : decode cX10_melody 77 = .ok (.irem, 1) := by decide +kernel
theorem dX10_melody_78 : decode cX10_melody 78 = .ok (.ishr, 1) := by decide +kernel
theorem dX10_melody_79 : decode cX10_melody 79 = .ok (.iconst 1, 1) := by decide +kernel
theorem dX10_melody_80 : decode cX10_melody 80 = .ok (.iand, 1) := by decide +kernel
theorem dX10_melody_81 : decode cX10_melody 81 = .ok (.iconst 1, 1) := by decide +kernel
theorem dX10_melody_82 : decode cX10_melody 82 = .ok (.if_icmp .ne 5, 3) := by decide +kernel
theorem dX10_melody_85 : decode cX10_melody 85 = .ok (.iconst 0, 1) := by decide +kernel
theorem dX10_melody_86 : decode cX10_melody 86 = .ok (.ireturn, 1) := by decide +kernel
theorem dX10_melody_87 : decode cX10_melody 87 = .ok (.iload_n 2, 1) := by decide +kernel
theorem dX10_melody_88 : decode cX10_melody 88 = .ok (.ifCond .le 26, 3) := by decide +kernel
theorem dX10_melody_91 : decode cX10_melody 91 = .ok (.aload_n 0, 1) := by decide +kernel
theorem dX10_melody_92 : decode cX10_melody 92 = .ok (.getfield 68, 3) := by decide +kernel
theorem dX10_melody_95 : decode cX10_melody 95 = .ok (.iload_n 2, 1) := by decide +kernel
theorem dX10_melody_96 : decode cX10_melody 96 = .ok (.ifCond .le 9, 3) := by decide +kernel
theorem dX10_melody_99 : decode cX10_melody 99 = .ok (.iload_n 2, 1) := by decide +kernel
theorem dX10_melody_100 : decode cX10_melody 100 = .ok (.iconst 1, 1) := by decide +kernel
theorem dX10_melody_101 : decode cX10_melody 101 = .ok (.isub, 1) := by decide +kernel
theorem dX10_melody_102 : decode cX10_melody 102 = .ok (.goto 4, 3) := by decide +kernel
theorem dX10_melody_105 : decode cX10_melody 105 = .ok (.iconst 0, 1) := by decide +kernel
theorem dX10_melody_106 : decode cX10_melody 106 = .ok (.iaload, 1) := by decide +kernel
theorem dX10_melody_107 : decode cX10_melody 107 = .ok (.ifCond .lt 7, 3) := by decide +kernel
theorem dX10_melody_110 : decode cX10_melody 110 = .ok (.iconst 1, 1) := by decide +kernel
theorem dX10_melody_111 : decode cX10_melody 111 = .ok (.goto 4, 3) := by decide +kernel
theorem dX10_melody_114 : decode cX10_melody 114 = .ok (.iconst 0, 1) := by decide +kernel
theorem dX10_melody_115 : decode cX10_melody 115 = .ok (.istore 5, 2) := by decide +kernel
theorem dX10_melody_117 : decode cX10_melody 117 = .ok (.iload_n 2, 1) := by decide +kernel
theorem dX10_melody_118 : decode cX10_melody 118 = .ok (.iconst 1, 1) := by decide +kernel
theorem dX10_melody_119 : decode cX10_melody 119 = .ok (.iadd, 1) := by decide +kernel
theorem dX10_melody_120 : decode cX10_melody 120 = .ok (.aload_n 0, 1) := by decide +kernel
theorem dX10_melody_121 : decode cX10_melody 121 = .ok (.getfield 192, 3) := by decide +kernel
theorem dX10_melody_124 : decode cX10_melody 124 = .ok (.if_icmp .ge 32, 3) := by decide +kernel
theorem dX10_melody_127 : decode cX10_melody 127 = .ok (.aload_n 0, 1) := by decide +kernel
theorem dX10_melody_128 : decode cX10_melody 128 = .ok (.getfield 68, 3) := by decide +kernel
theorem dX10_melody_131 : decode cX10_melody 131 = .ok (.iload_n 2, 1) := by decide +kernel
theorem dX10_melody_132 : decode cX10_melody 132 = .ok (.iconst 1, 1) := by decide +kernel
theorem dX10_melody_133 : decode cX10_melody 133 = .ok (.iadd, 1) := by decide +kernel
theorem dX10_melody_134 : decode cX10_melody 134 = .ok (.aload_n 0, 1) := by decide +kernel
theorem dX10_melody_135 : decode cX10_melody 135 = .ok (.getfield 192, 3) := by decide +kernel
theorem dX10_melody_138 : decode cX10_melody 138 = .ok (.if_icmp .ge 9, 3) := by decide +kernel
theorem dX10_melody_141 : decode cX10_melody 141 = .ok (.iload_n 2, 1) := by decide +kernel
theorem dX10_melody_142 : decode cX10_melody 142 = .ok (.iconst 1, 1) := by decide +kernel
theorem dX10_melody_143 : decode cX10_melody 143 = .ok (.iadd, 1) := by decide +kernel
theorem dX10_melody_144 : decode cX10_melody 144 = .ok (.goto 4, 3) := by decide +kernel
theorem dX10_melody_147 : decode cX10_melody 147 = .ok (.iconst 0, 1) := by decide +kernel
theorem dX10_melody_148 : decode cX10_melody 148 = .ok (.iaload, 1) := by decide +kernel
theorem dX10_melody_149 : decode cX10_melody 149 = .ok (.ifCond .lt 7, 3) := by decide +kernel
theorem dX10_melody_152 : decode cX10_melody 152 = .ok (.iconst 1, 1) := by decide +kernel
theorem dX10_melody_153 : decode cX10_melody 153 = .ok (.goto 4, 3) := by decide +kernel
theorem dX10_melody_156 : decode cX10_melody 156 = .ok (.iconst 0, 1) := by decide +kernel
theorem dX10_melody_157 : decode cX10_melody 157 = .ok (.istore 6, 2) := by decide +kernel
theorem dX10_melody_159 : decode cX10_melody 159 = .ok (.iload 5, 2) := by decide +kernel
theorem dX10_melody_161 : decode cX10_melody 161 = .ok (.ifCond .eq 16, 3) := by decide +kernel
theorem dX10_melody_164 : decode cX10_melody 164 = .ok (.iload_n 3, 1) := by decide +kernel
theorem dX10_melody_165 : decode cX10_melody 165 = .ok (.aload_n 0, 1) := by decide +kernel
theorem dX10_melody_166 : decode cX10_melody 166 = .ok (.getfield 68, 3) := by decide +kernel
theorem dX10_melody_169 : decode cX10_melody 169 = .ok (.iload_n 2, 1) := by decide +kernel
theorem dX10_melody_170 : decode cX10_melody 170 = .ok (.iconst 1, 1) := by decide +kernel
theorem dX10_melody_171 : decode cX10_melody 171 = .ok (.isub, 1) := by decide +kernel
theorem dX10_melody_172 : decode cX10_melody 172 = .ok (.iaload, 1) := by decide +kernel
theorem dX10_melody_173 : decode cX10_melody 173 = .ok (.isub, 1) := by decide +kernel
theorem dX10_melody_174 : decode cX10_melody 174 = .ok (.goto 4, 3) := by decide +kernel
theorem dX10_melody_177 : decode cX10_melody 177 = .ok (.iconst 0, 1) := by decide +kernel
theorem dX10_melody_178 : decode cX10_melody 178 = .ok (.istore 7, 2) := by decide +kernel
theorem dX10_melody_180 : decode cX10_melody 180 = .ok (.iload 6, 2) := by decide +kernel
theorem dX10_melody_182 : decode cX10_melody 182 = .ok (.ifCond .eq 16, 3) := by decide +kernel
theorem dX10_melody_185 : decode cX10_melody 185 = .ok (.aload_n 0, 1) := by decide +kernel
theorem dX10_melody_186 : decode cX10_melody 186 = .ok (.getfield 68, 3) := by decide +kernel
theorem dX10_melody_189 : decode cX10_melody 189 = .ok (.iload_n 2, 1) := by decide +kernel
theorem dX10_melody_190 : decode cX10_melody 190 = .ok (.iconst 1, 1) := by decide +kernel
theorem dX10_melody_191 : decode cX10_melody 191 = .ok (.iadd, 1) := by decide +kernel
theorem dX10_melody_192 : decode cX10_melody 192 = .ok (.iaload, 1) := by decide +kernel
theorem dX10_melody_193 : decode cX10_melody 193 = .ok (.iload_n 3, 1) := by decide +kernel
theorem dX10_melody_194 : decode cX10_melody 194 = .ok (.isub, 1) := by decide +kernel
theorem dX10_melody_195 : decode cX10_melody 195 = .ok (.goto 4, 3) := by decide +kernel
theorem dX10_melody_198 : decode cX10_melody 198 = .ok (.iconst 0, 1) := by decide +kernel
theorem dX10_melody_199 : decode cX10_melody 199 = .ok (.istore 8, 2) := by decide +kernel
theorem dX10_melody_201 : decode cX10_melody 201 = .ok (.iload 5, 2) := by decide +kernel
theorem dX10_melody_203 : decode cX10_melody 203 = .ok (.ifCond .eq 12, 3) := by decide +kernel
theorem dX10_melody_206 : decode cX10_melody 206 = .ok (.iload 6, 2) := by decide +kernel
theorem dX10_melody_208 : decode cX10_melody 208 = .ok (.ifCond .eq 7, 3) := by decide +kernel
theorem dX10_melody_211 : decode cX10_melody 211 = .ok (.iconst 1, 1) := by decide +kernel
theorem dX10_melody_212 : decode cX10_melody 212 = .ok (.goto 4, 3) := by decide +kernel
theorem dX10_melody_215 : decode cX10_melody 215 = .ok (.iconst 0, 1) := by decide +kernel
theorem dX10_melody_216 : decode cX10_melody 216 = .ok (.istore 9, 2) := by decide +kernel
theorem dX10_melody_218 : decode cX10_melody 218 = .ok (.iload 9, 2) := by decide +kernel
theorem dX10_melody_220 : decode cX10_melody 220 = .ok (.ifCond .eq 31, 3) := by decide +kernel
theorem dX10_melody_223 : decode cX10_melody 223 = .ok (.iload 7, 2) := by decide +kernel
theorem dX10_melody_225 : decode cX10_melody 225 = .ok (.invokestatic 277, 3) := by decide +kernel
theorem dX10_melody_228 : decode cX10_melody 228 = .ok (.ifCond .eq 23, 3) := by decide +kernel
theorem dX10_melody_231 : decode cX10_melody 231 = .ok (.iload 8, 2) := by decide +kernel
theorem dX10_melody_233 : decode cX10_melody 233 = .ok (.invokestatic 277, 3) := by decide +kernel
theorem dX10_melody_236 : decode cX10_melody 236 = .ok (.ifCond .eq 15, 3) := by decide +kernel
theorem dX10_melody_239 : decode cX10_melody 239 = .ok (.iload 7, 2) := by decide +kernel
theorem dX10_melody_241 : decode cX10_melody 241 = .ok (.iload 8, 2) := by decide +kernel
theorem dX10_melody_243 : decode cX10_melody 243 = .ok (.invokestatic 280, 3) := by decide +kernel
theorem dX10_melody_246 : decode cX10_melody 246 = .ok (.ifCond .ne 5, 3) := by decide +kernel
theorem dX10_melody_249 : decode cX10_melody 249 = .ok (.iconst 1, 1) := by decide +kernel
theorem dX10_melody_250 : decode cX10_melody 250 = .ok (.ireturn, 1) := by decide +kernel
theorem dX10_melody_251 : decode cX10_melody 251 = .ok (.iload 9, 2) := by decide +kernel
theorem dX10_melody_253 : decode cX10_melody 253 = .ok (.ifCond .eq 21, 3) := by decide +kernel
theorem dX10_melody_256 : decode cX10_melody 256 = .ok (.iload 7, 2) := by decide +kernel
theorem dX10_melody_258 : decode cX10_melody 258 = .ok (.invokestatic 277, 3) := by decide +kernel
theorem dX10_melody_261 : decode cX10_melody 261 = .ok (.ifCond .eq 13, 3) := by decide +kernel
theorem dX10_melody_264 : decode cX10_melody 264 = .ok (.iload 8, 2) := by decide +kernel
theorem dX10_melody_266 : decode cX10_melody 266 = .ok (.iload 7, 2) := by decide +kernel
theorem dX10_melody_268 : decode cX10_melody 268 = .ok (.ineg, 1) := by decide +kernel
theorem dX10_melody_269 : decode cX10_melody 269 = .ok (.if_icmp .ne 5, 3) := by decide +kernel
theorem dX10_melody_272 : decode cX10_melody 272 = .ok (.iconst 2, 1) := by decide +kernel
theorem dX10_melody_273 : decode cX10_melody 273 = .ok (.ireturn, 1) := by decide +kernel
theorem dX10_melody_274 : decode cX10_melody 274 = .ok (.iload 9, 2) := by decide +kernel
theorem dX10_melody_276 : decode cX10_melody 276 = .ok (.ifCond .eq 23, 3) := by decide +kernel
theorem dX10_melody_279 : decode cX10_melody 279 = .ok (.iload 7, 2) := by decide +kernel
theorem dX10_melody_281 : decode cX10_melody 281 = .ok (.ifCond .ne 18, 3) := by decide +kernel
theorem dX10_melody_284 : decode cX10_melody 284 = .ok (.iload 8, 2) := by decide +kernel
theorem dX10_melody_286 : decode cX10_melody 286 = .ok (.iconst (-1), 1) := by decide +kernel
theorem dX10_melody_287 : decode cX10_melody 287 = .ok (.if_icmp .eq 10, 3) := by decide +kernel
theorem dX10_melody_290 : decode cX10_melody 290 = .ok (.iload 8, 2) := by decide +kernel
theorem dX10_melody_292 : decode cX10_melody 292 = .ok (.bipush (-2), 2) := by decide +kernel
theorem dX10_melody_294 : decode cX10_melody 294 = .ok (.if_icmp .ne 5, 3) := by decide +kernel
theorem dX10_melody_297 : decode cX10_melody 297 = .ok (.iconst 3, 1) := by decide +kernel
theorem dX10_melody_298 : decode cX10_melody 298 = .ok (.ireturn, 1) := by decide +kernel
theorem dX10_melody_299 : decode cX10_melody 299 = .ok (.iload 6, 2) := by decide +kernel
theorem dX10_melody_301 : decode cX10_melody 301 = .ok (.ifCond .eq 10, 3) := by decide +kernel
theorem dX10_melody_304 : decode cX10_melody 304 = .ok (.iload 8, 2) := by decide +kernel
theorem dX10_melody_306 : decode cX10_melody 306 = .ok (.ifCond .ne 5, 3) := by decide +kernel
theorem dX10_melody_309 : decode cX10_melody 309 = .ok (.iconst 4, 1) := by decide +kernel
theorem dX10_melody_310 : decode cX10_melody 310 = .ok (.ireturn, 1) := by decide +kernel
theorem dX10_melody_311 : decode cX10_melody 311 = .ok (.iload 9, 2) := by decide +kernel
theorem dX10_melody_313 : decode cX10_melody 313 = .ok (.ifCond .eq 31, 3) := by decide +kernel
theorem dX10_melody_316 : decode cX10_melody 316 = .ok (.iload 7, 2) := by decide +kernel
theorem dX10_melody_318 : decode cX10_melody 318 = .ok (.invokestatic 284, 3) := by decide +kernel
theorem dX10_melody_321 : decode cX10_melody 321 = .ok (.ifCond .eq 23, 3) := by decide +kernel
theorem dX10_melody_324 : decode cX10_melody 324 = .ok (.iload 8, 2) := by decide +kernel
theorem dX10_melody_326 : decode cX10_melody 326 = .ok (.invokestatic 277, 3) := by decide +kernel
theorem dX10_melody_329 : decode cX10_melody 329 = .ok (.ifCond .eq 15, 3) := by decide +kernel
theorem dX10_melody_332 : decode cX10_melody 332 = .ok (.iload 7, 2) := by decide +kernel
theorem dX10_melody_334 : decode cX10_melody 334 = .ok (.iload 8, 2) := by decide +kernel
theorem dX10_melody_336 : decode cX10_melody 336 = .ok (.invokestatic 280, 3) := by decide +kernel
theorem dX10_melody_339 : decode cX10_melody 339 = .ok (.ifCond .eq 5, 3) := by decide +kernel
theorem dX10_melody_342 : decode cX10_melody 342 = .ok (.iconst 5, 1) := by decide +kernel
theorem dX10_melody_343 : decode cX10_melody 343 = .ok (.ireturn, 1) := by decide +kernel
theorem dX10_melody_344 : decode cX10_melody 344 = .ok (.iload 9, 2) := by decide +kernel
theorem dX10_melody_346 : decode cX10_melody 346 = .ok (.ifCond .eq 34, 3) := by decide +kernel
theorem dX10_melody_349 : decode cX10_melody 349 = .ok (.iload 7, 2) := by decide +kernel
theorem dX10_melody_351 : decode cX10_melody 351 = .ok (.invokestatic 277, 3) := by decide +kernel
theorem dX10_melody_354 : decode cX10_melody 354 = .ok (.ifCond .eq 26, 3) := by decide +kernel
theorem dX10_melody_357 : decode cX10_melody 357 = .ok (.iload 8, 2) := by decide +kernel
theorem dX10_melody_359 : decode cX10_melody 359 = .ok (.invokestatic 284, 3) := by decide +kernel
theorem dX10_melody_362 : decode cX10_melody 362 = .ok (.ifCond .eq 18, 3) := by decide +kernel
theorem dX10_melody_365 : decode cX10_melody 365 = .ok (.iload 7, 2) := by decide +kernel
theorem dX10_melody_367 : decode cX10_melody 367 = .ok (.iload 8, 2) := by decide +kernel
theorem dX10_melody_369 : decode cX10_melody 369 = .ok (.invokestatic 280, 3) := by decide +kernel
theorem dX10_melody_372 : decode cX10_melody 372 = .ok (.ifCond .eq 8, 3) := by decide +kernel
theorem dX10_melody_375 : decode cX10_melody 375 = .ok (.bipush 6, 2) := by decide +kernel
theorem dX10_melody_377 : decode cX10_melody 377 = .ok (.goto 5, 3) := by decide +kernel
theorem dX10_melody_380 : decode cX10_melody 380 = .ok (.bipush 7, 2) := by decide +kernel
theorem dX10_melody_382 : decode cX10_melody 382 = .ok (.ireturn, 1) := by decide +kernel
theorem dX10_cell_0 : decode cX10_cell 0 = .ok (.aload_n 0, 1) := by decide +kernel
theorem dX10_cell_1 : decode cX10_cell 1 = .ok (.iload_n 1, 1) := by decide +kernel
theorem dX10_cell_2 : decode cX10_cell 2 = .ok (.ifCond .lt 26, 3) := by decide +kernel
theorem dX10_cell_5 : decode cX10_cell 5 = .ok (.iload_n 1, 1) := by decide +kernel
theorem dX10_cell_6 : decode cX10_cell 6 = .ok (.iload_n 2, 1) := by decide +kernel
theorem dX10_cell_7 : decode cX10_cell 7 = .ok (.if_icmp .gt 21, 3) := by decide +kernel
theorem dX10_cell_10 : decode cX10_cell 10 = .ok (.iload_n 2, 1) := by decide +kernel
theorem dX10_cell_11 : decode cX10_cell 11 = .ok (.aload_n 0, 1) := by decide +kernel
theorem dX10_cell_12 : decode cX10_cell 12 = .ok (.getfield 192, 3) := by decide +kernel
theorem dX10_cell_15 : decode cX10_cell 15 = .ok (.if_icmp .ge 13, 3) := by decide +kernel
theorem dX10_cell_18 : decode cX10_cell 18 = .ok (.iload_n 3, 1) := by decide +kernel
theorem dX10_cell_19 : decode cX10_cell 19 = .ok (.ifCond .lt 9, 3) := by decide +kernel
theorem dX10_cell_22 : decode cX10_cell 22 = .ok (.iload_n 3, 1) := by decide +kernel
theorem dX10_cell_23 : decode cX10_cell 23 = .ok (.bipush 25, 2) := by decide +kernel
theorem dX10_cell_25 : decode cX10_cell 25 = .ok (.if_icmp .le 7, 3) := by decide +kernel
theorem dX10_cell_28 : decode cX10_cell 28 = .ok (.iconst 1, 1) := by decide +kernel
theorem dX10_cell_29 : decode cX10_cell 29 = .ok (.goto 4, 3) := by decide +kernel
theorem dX10_cell_32 : decode cX10_cell 32 = .ok (.iconst 0, 1) := by decide +kernel
theorem dX10_cell_33 : decode cX10_cell 33 = .ok (.putfield 106, 3) := by decide +kernel
theorem dX10_cell_36 : decode cX10_cell 36 = .ok (.aload_n 0, 1) := by decide +kernel
theorem dX10_cell_37 : decode cX10_cell 37 = .ok (.getfield 106, 3) := by decide +kernel
theorem dX10_cell_40 : decode cX10_cell 40 = .ok (.ifCond .le 7, 3) := by decide +kernel
theorem dX10_cell_43 : decode cX10_cell 43 = .ok (.lconst 0, 1) := by decide +kernel
theorem dX10_cell_44 : decode cX10_cell 44 = .ok (.goto 14, 3) := by decide +kernel
theorem dX10_cell_47 : decode cX10_cell 47 = .ok (.aload_n 0, 1) := by decide +kernel
theorem dX10_cell_48 : decode cX10_cell 48 = .ok (.getfield 80, 3) := by decide +kernel
theorem dX10_cell_51 : decode cX10_cell 51 = .ok (.iload_n 3, 1) := by decide +kernel
theorem dX10_cell_52 : decode cX10_cell 52 = .ok (.iload_n 1, 1) := by decide +kernel
theorem dX10_cell_53 : decode cX10_cell 53 = .ok (.iload_n 2, 1) := by decide +kernel
theorem dX10_cell_54 : decode cX10_cell 54 = .ok (.invokestatic 198, 3) := by decide +kernel
theorem dX10_cell_57 : decode cX10_cell 57 = .ok (.laload, 1) := by decide +kernel
theorem dX10_cell_58 : decode cX10_cell 58 = .ok (.lreturn, 1) := by decide +kernel
theorem dX10_told_0 : decode cX10_told 0 = .ok (.aload_n 0, 1) := by decide +kernel
theorem dX10_told_1 : decode cX10_told 1 = .ok (.iconst 0, 1) := by decide +kernel
theorem dX10_told_2 : decode cX10_told 2 = .ok (.putfield 106, 3) := by decide +kernel
theorem dX10_told_5 : decode cX10_told 5 = .ok (.iload_n 1, 1) := by decide +kernel
theorem dX10_told_6 : decode cX10_told 6 = .ok (.tableswitch 59 0 4 #[34, 39, 44, 49, 54], 34) := by decide +kernel
theorem dX10_told_40 : decode cX10_told 40 = .ok (.aload_n 0, 1) := by decide +kernel
theorem dX10_told_41 : decode cX10_told 41 = .ok (.getfield 175, 3) := by decide +kernel
theorem dX10_told_44 : decode cX10_told 44 = .ok (.ireturn, 1) := by decide +kernel
theorem dX10_told_45 : decode cX10_told 45 = .ok (.aload_n 0, 1) := by decide +kernel
theorem dX10_told_46 : decode cX10_told 46 = .ok (.getfield 172, 3) := by decide +kernel
theorem dX10_told_49 : decode cX10_told 49 = .ok (.ireturn, 1) := by decide +kernel
theorem dX10_told_50 : decode cX10_told 50 = .ok (.aload_n 0, 1) := by decide +kernel
theorem dX10_told_51 : decode cX10_told 51 = .ok (.getfield 117, 3) := by decide +kernel
theorem dX10_told_54 : decode cX10_told 54 = .ok (.ireturn, 1) := by decide +kernel
theorem dX10_told_55 : decode cX10_told 55 = .ok (.aload_n 0, 1) := by decide +kernel
theorem dX10_told_56 : decode cX10_told 56 = .ok (.invokevirtual 238, 3) := by decide +kernel
theorem dX10_told_59 : decode cX10_told 59 = .ok (.ireturn, 1) := by decide +kernel
theorem dX10_told_60 : decode cX10_told 60 = .ok (.aload_n 0, 1) := by decide +kernel
theorem dX10_told_61 : decode cX10_told 61 = .ok (.getfield 192, 3) := by decide +kernel
theorem dX10_told_64 : decode cX10_told 64 = .ok (.ireturn, 1) := by decide +kernel
theorem dX10_told_65 : decode cX10_told 65 = .ok (.iconst (-1), 1) := by decide +kernel
theorem dX10_told_66 : decode cX10_told 66 = .ok (.ireturn, 1) := by decide +kernel
theorem dJx00060_init_a7421_0 : decode cJx00060_init_a7421 0 = .ok (.aload_n 0, 1) := by decide +kernel
theorem dJx00060_init_a7421_1 : decode cJx00060_init_a7421 1 = .ok (.aload_n 1, 1) := by decide +kernel
theorem dJx00060_init_a7421_2 : decode cJx00060_init_a7421 2 = .ok (.invokespecial 7, 3) := by decide +kernel
theorem dJx00060_init_a7421_5 : decode cJx00060_init_a7421 5 = .ok (.return_, 1) := by decide +kernel
theorem dJ11_isValidCodePoint_9a6ad_0 : decode cJ11_isValidCodePoint_9a6ad 0 = .ok (.iload_n 0, 1) := by decide +kernel
theorem dJ11_isValidCodePoint_9a6ad_1 : decode cJ11_isValidCodePoint_9a6ad 1 = .ok (.bipush 16, 2) := by decide +kernel
theorem dJ11_isValidCodePoint_9a6ad_3 : decode cJ11_isValidCodePoint_9a6ad 3 = .ok (.iushr, 1) := by decide +kernel
theorem dJ11_isValidCodePoint_9a6ad_4 : decode cJ11_isValidCodePoint_9a6ad 4 = .ok (.istore_n 1, 1) := by decide +kernel
theorem dJ11_isValidCodePoint_9a6ad_5 : decode cJ11_isValidCodePoint_9a6ad 5 = .ok (.iload_n 1, 1) := by decide +kernel
theorem dJ11_isValidCodePoint_9a6ad_6 : decode cJ11_isValidCodePoint_9a6ad 6 = .ok (.bipush 17, 2) := by decide +kernel
theorem dJ11_isValidCodePoint_9a6ad_8 : decode cJ11_isValidCodePoint_9a6ad 8 = .ok (.if_icmp .ge 7, 3) := by decide +kernel
theorem dJ11_isValidCodePoint_9a6ad_11 : decode cJ11_isValidCodePoint_9a6ad 11 = .ok (.iconst 1, 1) := by decide +kernel
theorem dJ11_isValidCodePoint_9a6ad_12 : decode cJ11_isValidCodePoint_9a6ad 12 = .ok (.goto 4, 3) := by decide +kernel
theorem dJ11_isValidCodePoint_9a6ad_15 : decode cJ11_isValidCodePoint_9a6ad 15 = .ok (.iconst 0, 1) := by decide +kernel
theorem dJ11_isValidCodePoint_9a6ad_16 : decode cJ11_isValidCodePoint_9a6ad 16 = .ok (.ireturn, 1) := by decide +kernel
theorem dJ11_highSurrogate_5068e_0 : decode cJ11_highSurrogate_5068e 0 = .ok (.iload_n 0, 1) := by decide +kernel
theorem dJ11_highSurrogate_5068e_1 : decode cJ11_highSurrogate_5068e 1 = .ok (.bipush 10, 2) := by decide +kernel
theorem dJ11_highSurrogate_5068e_3 : decode cJ11_highSurrogate_5068e 3 = .ok (.iushr, 1) := by decide +kernel
theorem dJ11_highSurrogate_5068e_4 : decode cJ11_highSurrogate_5068e 4 = .ok (.ldc 110, 2) := by decide +kernel
theorem dJ11_highSurrogate_5068e_6 : decode cJ11_highSurrogate_5068e 6 = .ok (.iadd, 1) := by decide +kernel
theorem dJ11_highSurrogate_5068e_7 : decode cJ11_highSurrogate_5068e 7 = .ok (.i2c, 1) := by decide +kernel
theorem dJ11_highSurrogate_5068e_8 : decode cJ11_highSurrogate_5068e 8 = .ok (.ireturn, 1) := by decide +kernel
theorem dJ11_lowSurrogate_5068e_0 : decode cJ11_lowSurrogate_5068e 0 = .ok (.iload_n 0, 1) := by decide +kernel
theorem dJ11_lowSurrogate_5068e_1 : decode cJ11_lowSurrogate_5068e 1 = .ok (.sipush 1023, 3) := by decide +kernel
theorem dJ11_lowSurrogate_5068e_4 : decode cJ11_lowSurrogate_5068e 4 = .ok (.iand, 1) := by decide +kernel
theorem dJ11_lowSurrogate_5068e_5 : decode cJ11_lowSurrogate_5068e 5 = .ok (.ldc 76, 2) := by decide +kernel
theorem dJ11_lowSurrogate_5068e_7 : decode cJ11_lowSurrogate_5068e 7 = .ok (.iadd, 1) := by decide +kernel
theorem dJ11_lowSurrogate_5068e_8 : decode cJ11_lowSurrogate_5068e 8 = .ok (.i2c, 1) := by decide +kernel
theorem dJ11_lowSurrogate_5068e_9 : decode cJ11_lowSurrogate_5068e 9 = .ok (.ireturn, 1) := by decide +kernel
theorem dJ6_bitCount_0f7a4_0 : decode cJ6_bitCount_0f7a4 0 = .ok (.iload_n 0, 1) := by decide +kernel
theorem dJ6_bitCount_0f7a4_1 : decode cJ6_bitCount_0f7a4 1 = .ok (.iload_n 0, 1) := by decide +kernel
theorem dJ6_bitCount_0f7a4_2 : decode cJ6_bitCount_0f7a4 2 = .ok (.iconst 1, 1) := by decide +kernel
theorem dJ6_bitCount_0f7a4_3 : decode cJ6_bitCount_0f7a4 3 = .ok (.iushr, 1) := by decide +kernel
theorem dJ6_bitCount_0f7a4_4 : decode cJ6_bitCount_0f7a4 4 = .ok (.ldc_w 265, 3) := by decide +kernel
theorem dJ6_bitCount_0f7a4_7 : decode cJ6_bitCount_0f7a4 7 = .ok (.iand, 1) := by decide +kernel
theorem dJ6_bitCount_0f7a4_8 : decode cJ6_bitCount_0f7a4 8 = .ok (.isub, 1) := by decide +kernel
theorem dJ6_bitCount_0f7a4_9 : decode cJ6_bitCount_0f7a4 9 = .ok (.istore_n 0, 1) := by decide +kernel
theorem dJ6_bitCount_0f7a4_10 : decode cJ6_bitCount_0f7a4 10 = .ok (.iload_n 0, 1) := by decide +kernel
theorem dJ6_bitCount_0f7a4_11 : decode cJ6_bitCount_0f7a4 11 = .ok (.ldc_w 266, 3) := by decide +kernel
theorem dJ6_bitCount_0f7a4_14 : decode cJ6_bitCount_0f7a4 14 = .ok (.iand, 1) := by decide +kernel
theorem dJ6_bitCount_0f7a4_15 : decode cJ6_bitCount_0f7a4 15 = .ok (.iload_n 0, 1) := by decide +kernel
theorem dJ6_bitCount_0f7a4_16 : decode cJ6_bitCount_0f7a4 16 = .ok (.iconst 2, 1) := by decide +kernel
theorem dJ6_bitCount_0f7a4_17 : decode cJ6_bitCount_0f7a4 17 = .ok (.iushr, 1) := by decide +kernel
theorem dJ6_bitCount_0f7a4_18 : decode cJ6_bitCount_0f7a4 18 = .ok (.ldc_w 266, 3) := by decide +kernel
theorem dJ6_bitCount_0f7a4_21 : decode cJ6_bitCount_0f7a4 21 = .ok (.iand, 1) := by decide +kernel
theorem dJ6_bitCount_0f7a4_22 : decode cJ6_bitCount_0f7a4 22 = .ok (.iadd, 1) := by decide +kernel
theorem dJ6_bitCount_0f7a4_23 : decode cJ6_bitCount_0f7a4 23 = .ok (.istore_n 0, 1) := by decide +kernel
theorem dJ6_bitCount_0f7a4_24 : decode cJ6_bitCount_0f7a4 24 = .ok (.iload_n 0, 1) := by decide +kernel
theorem dJ6_bitCount_0f7a4_25 : decode cJ6_bitCount_0f7a4 25 = .ok (.iload_n 0, 1) := by decide +kernel
theorem dJ6_bitCount_0f7a4_26 : decode cJ6_bitCount_0f7a4 26 = .ok (.iconst 4, 1) := by decide +kernel
theorem dJ6_bitCount_0f7a4_27 : decode cJ6_bitCount_0f7a4 27 = .ok (.iushr, 1) := by decide +kernel
theorem dJ6_bitCount_0f7a4_28 : decode cJ6_bitCount_0f7a4 28 = .ok (.iadd, 1) := by decide +kernel
theorem dJ6_bitCount_0f7a4_29 : decode cJ6_bitCount_0f7a4 29 = .ok (.ldc_w 267, 3) := by decide +kernel
theorem dJ6_bitCount_0f7a4_32 : decode cJ6_bitCount_0f7a4 32 = .ok (.iand, 1) := by decide +kernel
theorem dJ6_bitCount_0f7a4_33 : decode cJ6_bitCount_0f7a4 33 = .ok (.istore_n 0, 1) := by decide +kernel
theorem dJ6_bitCount_0f7a4_34 : decode cJ6_bitCount_0f7a4 34 = .ok (.iload_n 0, 1) := by decide +kernel
theorem dJ6_bitCount_0f7a4_35 : decode cJ6_bitCount_0f7a4 35 = .ok (.iload_n 0, 1) := by decide +kernel
theorem dJ6_bitCount_0f7a4_36 : decode cJ6_bitCount_0f7a4 36 = .ok (.bipush 8, 2) := by decide +kernel
theorem dJ6_bitCount_0f7a4_38 : decode cJ6_bitCount_0f7a4 38 = .ok (.iushr, 1) := by decide +kernel
theorem dJ6_bitCount_0f7a4_39 : decode cJ6_bitCount_0f7a4 39 = .ok (.iadd, 1) := by decide +kernel
theorem dJ6_bitCount_0f7a4_40 : decode cJ6_bitCount_0f7a4 40 = .ok (.istore_n 0, 1) := by decide +kernel
theorem dJ6_bitCount_0f7a4_41 : decode cJ6_bitCount_0f7a4 41 = .ok (.iload_n 0, 1) := by decide +kernel
theorem dJ6_bitCount_0f7a4_42 : decode cJ6_bitCount_0f7a4 42 = .ok (.iload_n 0, 1) := by decide +kernel
theorem dJ6_bitCount_0f7a4_43 : decode cJ6_bitCount_0f7a4 43 = .ok (.bipush 16, 2) := by decide +kernel
theorem dJ6_bitCount_0f7a4_45 : decode cJ6_bitCount_0f7a4 45 = .ok (.iushr, 1) := by decide +kernel
theorem dJ6_bitCount_0f7a4_46 : decode cJ6_bitCount_0f7a4 46 = .ok (.iadd, 1) := by decide +kernel
theorem dJ6_bitCount_0f7a4_47 : decode cJ6_bitCount_0f7a4 47 = .ok (.istore_n 0, 1) := by decide +kernel
theorem dJ6_bitCount_0f7a4_48 : decode cJ6_bitCount_0f7a4 48 = .ok (.iload_n 0, 1) := by decide +kernel
theorem dJ6_bitCount_0f7a4_49 : decode cJ6_bitCount_0f7a4 49 = .ok (.bipush 63, 2) := by decide +kernel
theorem dJ6_bitCount_0f7a4_51 : decode cJ6_bitCount_0f7a4 51 = .ok (.iand, 1) := by decide +kernel
theorem dJ6_bitCount_0f7a4_52 : decode cJ6_bitCount_0f7a4 52 = .ok (.ireturn, 1) := by decide +kernel
theorem dJ9_max_7cf53_0 : decode cJ9_max_7cf53 0 = .ok (.iload_n 0, 1) := by decide +kernel
theorem dJ9_max_7cf53_1 : decode cJ9_max_7cf53 1 = .ok (.iload_n 1, 1) := by decide +kernel
theorem dJ9_max_7cf53_2 : decode cJ9_max_7cf53 2 = .ok (.if_icmp .lt 7, 3) := by decide +kernel
theorem dJ9_max_7cf53_5 : decode cJ9_max_7cf53 5 = .ok (.iload_n 0, 1) := by decide +kernel
theorem dJ9_max_7cf53_6 : decode cJ9_max_7cf53 6 = .ok (.goto 4, 3) := by decide +kernel
theorem dJ9_max_7cf53_9 : decode cJ9_max_7cf53 9 = .ok (.iload_n 1, 1) := by decide +kernel
theorem dJ9_max_7cf53_10 : decode cJ9_max_7cf53 10 = .ok (.ireturn, 1) := by decide +kernel
theorem dJ9_min_7cf53_0 : decode cJ9_min_7cf53 0 = .ok (.iload_n 0, 1) := by decide +kernel
theorem dJ9_min_7cf53_1 : decode cJ9_min_7cf53 1 = .ok (.iload_n 1, 1) := by decide +kernel
theorem dJ9_min_7cf53_2 : decode cJ9_min_7cf53 2 = .ok (.if_icmp .gt 7, 3) := by decide +kernel
theorem dJ9_min_7cf53_5 : decode cJ9_min_7cf53 5 = .ok (.iload_n 0, 1) := by decide +kernel
theorem dJ9_min_7cf53_6 : decode cJ9_min_7cf53 6 = .ok (.goto 4, 3) := by decide +kernel
theorem dJ9_min_7cf53_9 : decode cJ9_min_7cf53 9 = .ok (.iload_n 1, 1) := by decide +kernel
theorem dJ9_min_7cf53_10 : decode cJ9_min_7cf53 10 = .ok (.ireturn, 1) := by decide +kernel
theorem dJ0_length_8abf5_0 : decode cJ0_length_8abf5 0 = .ok (.aload_n 0, 1) := by decide +kernel
theorem dJ0_length_8abf5_1 : decode cJ0_length_8abf5 1 = .ok (.getfield 9, 3) := by decide +kernel
theorem dJ0_length_8abf5_4 : decode cJ0_length_8abf5 4 = .ok (.arraylength, 1) := by decide +kernel
theorem dJ0_length_8abf5_5 : decode cJ0_length_8abf5 5 = .ok (.aload_n 0, 1) := by decide +kernel
theorem dJ0_length_8abf5_6 : decode cJ0_length_8abf5 6 = .ok (.invokevirtual 335, 3) := by decide +kernel
theorem dJ0_length_8abf5_9 : decode cJ0_length_8abf5 9 = .ok (.ishr, 1) := by decide +kernel
theorem dJ0_length_8abf5_10 : decode cJ0_length_8abf5 10 = .ok (.ireturn, 1) := by decide +kernel
theorem dJ0_indexOf_0f7a4_0 : decode cJ0_indexOf_0f7a4 0 = .ok (.aload_n 0, 1) := by decide +kernel
theorem dJ0_indexOf_0f7a4_1 : decode cJ0_indexOf_0f7a4 1 = .ok (.iload_n 1, 1) := by decide +kernel
theorem dJ0_indexOf_0f7a4_2 : decode cJ0_indexOf_0f7a4 2 = .ok (.iconst 0, 1) := by decide +kernel
theorem dJ0_indexOf_0f7a4_3 : decode cJ0_indexOf_0f7a4 3 = .ok (.invokevirtual 633, 3) := by decide +kernel
theorem dJ0_indexOf_0f7a4_6 : decode cJ0_indexOf_0f7a4 6 = .ok (.ireturn, 1) := by decide +kernel
theorem dJ0_indexOf_7cf53_0 : decode cJ0_indexOf_7cf53 0 = .ok (.aload_n 0, 1) := by decide +kernel
theorem dJ0_indexOf_7cf53_1 : decode cJ0_indexOf_7cf53 1 = .ok (.invokevirtual 492, 3) := by decide +kernel
theorem dJ0_indexOf_7cf53_4 : decode cJ0_indexOf_7cf53 4 = .ok (.ifCond .eq 19, 3) := by decide +kernel
theorem dJ0_indexOf_7cf53_7 : decode cJ0_indexOf_7cf53 7 = .ok (.aload_n 0, 1) := by decide +kernel
theorem dJ0_indexOf_7cf53_8 : decode cJ0_indexOf_7cf53 8 = .ok (.getfield 9, 3) := by decide +kernel
theorem dJ0_indexOf_7cf53_11 : decode cJ0_indexOf_7cf53 11 = .ok (.iload_n 1, 1) := by decide +kernel
theorem dJ0_indexOf_7cf53_12 : decode cJ0_indexOf_7cf53 12 = .ok (.iload_n 2, 1) := by decide +kernel
theorem dJ0_indexOf_7cf53_13 : decode cJ0_indexOf_7cf53 13 = .ok (.aload_n 0, 1) := by decide +kernel
theorem dJ0_indexOf_7cf53_14 : decode cJ0_indexOf_7cf53 14 = .ok (.invokevirtual 505, 3) := by decide +kernel
theorem dJ0_indexOf_7cf53_17 : decode cJ0_indexOf_7cf53 17 = .ok (.invokestatic 637, 3) := by decide +kernel
theorem dJ0_indexOf_7cf53_20 : decode cJ0_indexOf_7cf53 20 = .ok (.goto 16, 3) := by decide +kernel
theorem dJ0_indexOf_7cf53_23 : decode cJ0_indexOf_7cf53 23 = .ok (.aload_n 0, 1) := by decide +kernel
theorem dJ0_indexOf_7cf53_24 : decode cJ0_indexOf_7cf53 24 = .ok (.getfield 9, 3) := by decide +kernel
theorem dJ0_indexOf_7cf53_27 : decode cJ0_indexOf_7cf53 27 = .ok (.iload_n 1, 1) := by decide +kernel
theorem dJ0_indexOf_7cf53_28 : decode cJ0_indexOf_7cf53 28 = .ok (.iload_n 2, 1) := by decide +kernel
theorem dJ0_indexOf_7cf53_29 : decode cJ0_indexOf_7cf53 29 = .ok (.aload_n 0, 1) := by decide +kernel
theorem dJ0_indexOf_7cf53_30 : decode cJ0_indexOf_7cf53 30 = .ok (.invokevirtual 505, 3) := by decide +kernel
theorem dJ0_indexOf_7cf53_33 : decode cJ0_indexOf_7cf53 33 = .ok (.invokestatic 640, 3) := by decide +kernel
theorem dJ0_indexOf_7cf53_36 : decode cJ0_indexOf_7cf53 36 = .ok (.ireturn, 1) := by decide +kernel
theorem dJ0_coder_7d493_0 : decode cJ0_coder_7d493 0 = .ok (.getstatic 38, 3) := by decide +kernel
theorem dJ0_coder_7d493_3 : decode cJ0_coder_7d493 3 = .ok (.ifCond .eq 10, 3) := by decide +kernel
theorem dJ0_coder_7d493_6 : decode cJ0_coder_7d493 6 = .ok (.aload_n 0, 1) := by decide +kernel
theorem dJ0_coder_7d493_7 : decode cJ0_coder_7d493 7 = .ok (.getfield 15, 3) := by decide +kernel
theorem dJ0_coder_7d493_10 : decode cJ0_coder_7d493 10 = .ok (.goto 4, 3) := by decide +kernel
theorem dJ0_coder_7d493_13 : decode cJ0_coder_7d493 13 = .ok (.iconst 1, 1) := by decide +kernel
theorem dJ0_coder_7d493_14 : decode cJ0_coder_7d493 14 = .ok (.ireturn, 1) := by decide +kernel
theorem dJ0_isLatin1_aae02_0 : decode cJ0_isLatin1_aae02 0 = .ok (.getstatic 38, 3) := by decide +kernel
theorem dJ0_isLatin1_aae02_3 : decode cJ0_isLatin1_aae02 3 = .ok (.ifCond .eq 14, 3) := by decide +kernel
theorem dJ0_isLatin1_aae02_6 : decode cJ0_isLatin1_aae02 6 = .ok (.aload_n 0, 1) := by decide +kernel
theorem dJ0_isLatin1_aae02_7 : decode cJ0_isLatin1_aae02 7 = .ok (.getfield 15, 3) := by decide +kernel
theorem dJ0_isLatin1_aae02_10 : decode cJ0_isLatin1_aae02 10 = .ok (.ifCond .ne 7, 3) := by decide +kernel
theorem dJ0_isLatin1_aae02_13 : decode cJ0_isLatin1_aae02 13 = .ok (.iconst 1, 1) := by decide +kernel
theorem dJ0_isLatin1_aae02_14 : decode cJ0_isLatin1_aae02 14 = .ok (.goto 4, 3) := by decide +kernel
theorem dJ0_isLatin1_aae02_17 : decode cJ0_isLatin1_aae02 17 = .ok (.iconst 0, 1) := by decide +kernel
theorem dJ0_isLatin1_aae02_18 : decode cJ0_isLatin1_aae02 18 = .ok (.ireturn, 1) := by decide +kernel
theorem dJ0_checkBoundsBeginEnd_23922_0 : decode cJ0_checkBoundsBeginEnd_23922 0 = .ok (.iload_n 0, 1) := by decide +kernel
theorem dJ0_checkBoundsBeginEnd_23922_1 : decode cJ0_checkBoundsBeginEnd_23922 1 = .ok (.iload_n 1, 1) := by decide +kernel
theorem dJ0_checkBoundsBeginEnd_23922_2 : decode cJ0_checkBoundsBeginEnd_23922 2 = .ok (.iload_n 2, 1) := by decide +kernel
theorem dJ0_checkBoundsBeginEnd_23922_3 : decode cJ0_checkBoundsBeginEnd_23922 3 = .ok (.getstatic 1053, 3) := by decide +kernel
theorem dJ0_checkBoundsBeginEnd_23922_6 : decode cJ0_checkBoundsBeginEnd_23922 6 = .ok (.invokestatic 1062, 3) := by decide +kernel
theorem dJ0_checkBoundsBeginEnd_23922_9 : decode cJ0_checkBoundsBeginEnd_23922 9 = .ok (.pop, 1) := by decide +kernel
theorem dJ0_checkBoundsBeginEnd_23922_10 : decode cJ0_checkBoundsBeginEnd_23922 10 = .ok (.return_, 1) := by decide +kernel
theorem dJ1_canEncode_9a6ad_0 : decode cJ1_canEncode_9a6ad 0 = .ok (.iload_n 0, 1) := by decide +kernel
theorem dJ1_canEncode_9a6ad_1 : decode cJ1_canEncode_9a6ad 1 = .ok (.ifCond .lt 14, 3) := by decide +kernel
theorem dJ1_canEncode_9a6ad_4 : decode cJ1_canEncode_9a6ad 4 = .ok (.iload_n 0, 1) := by decide +kernel
theorem dJ1_canEncode_9a6ad_5 : decode cJ1_canEncode_9a6ad 5 = .ok (.sipush 255, 3) := by decide +kernel
theorem dJ1_canEncode_9a6ad_8 : decode cJ1_canEncode_9a6ad 8 = .ok (.if_icmp .gt 7, 3) := by decide +kernel
theorem dJ1_canEncode_9a6ad_11 : decode cJ1_canEncode_9a6ad 11 = .ok (.iconst 1, 1) := by decide +kernel
theorem dJ1_canEncode_9a6ad_12 : decode cJ1_canEncode_9a6ad 12 = .ok (.goto 4, 3) := by decide +kernel
theorem dJ1_canEncode_9a6ad_15 : decode cJ1_canEncode_9a6ad 15 = .ok (.iconst 0, 1) := by decide +kernel
theorem dJ1_canEncode_9a6ad_16 : decode cJ1_canEncode_9a6ad 16 = .ok (.ireturn, 1) := by decide +kernel
theorem dJ1_indexOf_4cfef_0 : decode cJ1_indexOf_4cfef 0 = .ok (.iload_n 1, 1) := by decide +kernel
theorem dJ1_indexOf_4cfef_1 : decode cJ1_indexOf_4cfef 1 = .ok (.invokestatic 88, 3) := by decide +kernel
theorem dJ1_indexOf_4cfef_4 : decode cJ1_indexOf_4cfef 4 = .ok (.ifCond .ne 5, 3) := by decide +kernel
theorem dJ1_indexOf_4cfef_7 : decode cJ1_indexOf_4cfef 7 = .ok (.iconst (-1), 1) := by decide +kernel
theorem dJ1_indexOf_4cfef_8 : decode cJ1_indexOf_4cfef 8 = .ok (.ireturn, 1) := by decide +kernel
theorem dJ1_indexOf_4cfef_9 : decode cJ1_indexOf_4cfef 9 = .ok (.iload_n 2, 1) := by decide +kernel
theorem dJ1_indexOf_4cfef_10 : decode cJ1_indexOf_4cfef 10 = .ok (.iconst 0, 1) := by decide +kernel
theorem dJ1_indexOf_4cfef_11 : decode cJ1_indexOf_4cfef 11 = .ok (.invokestatic 92, 3) := by decide +kernel
theorem dJ1_indexOf_4cfef_14 : decode cJ1_indexOf_4cfef 14 = .ok (.istore_n 2, 1) := by decide +kernel
theorem dJ1_indexOf_4cfef_15 : decode cJ1_indexOf_4cfef 15 = .ok (.iload_n 3, 1) := by decide +kernel
theorem dJ1_indexOf_4cfef_16 : decode cJ1_indexOf_4cfef 16 = .ok (.aload_n 0, 1) := by decide +kernel
theorem dJ1_indexOf_4cfef_17 : decode cJ1_indexOf_4cfef 17 = .ok (.arraylength, 1) := by decide +kernel
theorem dJ1_indexOf_4cfef_18 : decode cJ1_indexOf_4cfef 18 = .ok (.invokestatic 38, 3) := by decide +kernel
theorem dJ1_indexOf_4cfef_21 : decode cJ1_indexOf_4cfef 21 = .ok (.istore_n 3, 1) := by decide +kernel
theorem dJ1_indexOf_4cfef_22 : decode cJ1_indexOf_4cfef 22 = .ok (.iload_n 2, 1) := by decide +kernel
theorem dJ1_indexOf_4cfef_23 : decode cJ1_indexOf_4cfef 23 = .ok (.iload_n 3, 1) := by decide +kernel
theorem dJ1_indexOf_4cfef_24 : decode cJ1_indexOf_4cfef 24 = .ok (.if_icmp .lt 5, 3) := by decide +kernel
theorem dJ1_indexOf_4cfef_27 : decode cJ1_indexOf_4cfef 27 = .ok (.iconst (-1), 1) := by decide +kernel
theorem dJ1_indexOf_4cfef_28 : decode cJ1_indexOf_4cfef 28 = .ok (.ireturn, 1) := by decide +kernel
theorem dJ1_indexOf_4cfef_29 : decode cJ1_indexOf_4cfef 29 = .ok (.aload_n 0, 1) := by decide +kernel
theorem dJ1_indexOf_4cfef_30 : decode cJ1_indexOf_4cfef 30 = .ok (.iload_n 1, 1) := by decide +kernel
theorem dJ1_indexOf_4cfef_31 : decode cJ1_indexOf_4cfef 31 = .ok (.iload_n 2, 1) := by decide +kernel
theorem dJ1_indexOf_4cfef_32 : decode cJ1_indexOf_4cfef 32 = .ok (.iload_n 3, 1) := by decide +kernel
theorem dJ1_indexOf_4cfef_33 : decode cJ1_indexOf_4cfef 33 = .ok (.invokestatic 95, 3) := by decide +kernel
theorem dJ1_indexOf_4cfef_36 : decode cJ1_indexOf_4cfef 36 = .ok (.ireturn, 1) := by decide +kernel
theorem dJ1_indexOfChar_4cfef_0 : decode cJ1_indexOfChar_4cfef 0 = .ok (.iload_n 1, 1) := by decide +kernel
theorem dJ1_indexOfChar_4cfef_1 : decode cJ1_indexOfChar_4cfef 1 = .ok (.i2b, 1) := by decide +kernel
theorem dJ1_indexOfChar_4cfef_2 : decode cJ1_indexOfChar_4cfef 2 = .ok (.istore 4, 2) := by decide +kernel
theorem dJ1_indexOfChar_4cfef_4 : decode cJ1_indexOfChar_4cfef 4 = .ok (.iload_n 2, 1) := by decide +kernel
theorem dJ1_indexOfChar_4cfef_5 : decode cJ1_indexOfChar_4cfef 5 = .ok (.istore 5, 2) := by decide +kernel
theorem dJ1_indexOfChar_4cfef_7 : decode cJ1_indexOfChar_4cfef 7 = .ok (.iload 5, 2) := by decide +kernel
theorem dJ1_indexOfChar_4cfef_9 : decode cJ1_indexOfChar_4cfef 9 = .ok (.iload_n 3, 1) := by decide +kernel
theorem dJ1_indexOfChar_4cfef_10 : decode cJ1_indexOfChar_4cfef 10 = .ok (.if_icmp .ge 21, 3) := by decide +kernel
theorem dJ1_indexOfChar_4cfef_13 : decode cJ1_indexOfChar_4cfef 13 = .ok (.aload_n 0, 1) := by decide +kernel
theorem dJ1_indexOfChar_4cfef_14 : decode cJ1_indexOfChar_4cfef 14 = .ok (.iload 5, 2) := by decide +kernel
theorem dJ1_indexOfChar_4cfef_16 : decode cJ1_indexOfChar_4cfef 16 = .ok (.baload, 1) := by decide +kernel
theorem dJ1_indexOfChar_4cfef_17 : decode cJ1_indexOfChar_4cfef 17 = .ok (.iload 4, 2) := by decide +kernel
theorem dJ1_indexOfChar_4cfef_19 : decode cJ1_indexOfChar_4cfef 19 = .ok (.if_icmp .ne 6, 3) := by decide +kernel
theorem dJ1_indexOfChar_4cfef_22 : decode cJ1_indexOfChar_4cfef 22 = .ok (.iload 5, 2) := by decide +kernel
theorem dJ1_indexOfChar_4cfef_24 : decode cJ1_indexOfChar_4cfef 24 = .ok (.ireturn, 1) := by decide +kernel
theorem dJ1_indexOfChar_4cfef_25 : decode cJ1_indexOfChar_4cfef 25 = .ok (.iinc 5 1, 3) := by decide +kernel
theorem dJ1_indexOfChar_4cfef_28 : decode cJ1_indexOfChar_4cfef 28 = .ok (.goto (-21), 3) := by decide +kernel
theorem dJ1_indexOfChar_4cfef_31 : decode cJ1_indexOfChar_4cfef 31 = .ok (.iconst (-1), 1) := by decide +kernel
theorem dJ1_indexOfChar_4cfef_32 : decode cJ1_indexOfChar_4cfef 32 = .ok (.ireturn, 1) := by decide +kernel
theorem dJ2_getChar_3b067_0 : decode cJ2_getChar_3b067 0 = .ok (.getstatic 44, 3) := by decide +kernel
theorem dJ2_getChar_3b067_3 : decode cJ2_getChar_3b067 3 = .ok (.ifCond .ne 25, 3) := by decide +kernel
theorem dJ2_getChar_3b067_6 : decode cJ2_getChar_3b067 6 = .ok (.iload_n 1, 1) := by decide +kernel
theorem dJ2_getChar_3b067_7 : decode cJ2_getChar_3b067 7 = .ok (.ifCond .lt 11, 3) := by decide +kernel
theorem dJ2_getChar_3b067_10 : decode cJ2_getChar_3b067 10 = .ok (.iload_n 1, 1) := by decide +kernel
theorem dJ2_getChar_3b067_11 : decode cJ2_getChar_3b067 11 = .ok (.aload_n 0, 1) := by decide +kernel
theorem dJ2_getChar_3b067_12 : decode cJ2_getChar_3b067 12 = .ok (.invokestatic 48, 3) := by decide +kernel
theorem dJ2_getChar_3b067_15 : decode cJ2_getChar_3b067 15 = .ok (.if_icmp .lt 13, 3) := by decide +kernel
theorem dJ2_getChar_3b067_18 : decode cJ2_getChar_3b067 18 = .ok (.new 52, 3) := by decide +kernel
theorem dJ2_getChar_3b067_21 : decode cJ2_getChar_3b067 21 = .ok (.dup, 1) := by decide +kernel
theorem dJ2_getChar_3b067_22 : decode cJ2_getChar_3b067 22 = .ok (.ldc 54, 2) := by decide +kernel
theorem dJ2_getChar_3b067_24 : decode cJ2_getChar_3b067 24 = .ok (.invokespecial 56, 3) := by decide +kernel
theorem dJ2_getChar_3b067_27 : decode cJ2_getChar_3b067 27 = .ok (.athrow, 1) := by decide +kernel
theorem dJ2_getChar_3b067_28 : decode cJ2_getChar_3b067 28 = .ok (.iload_n 1, 1) := by decide +kernel
theorem dJ2_getChar_3b067_29 : decode cJ2_getChar_3b067 29 = .ok (.iconst 1, 1) := by decide +kernel
theorem dJ2_getChar_3b067_30 : decode cJ2_getChar_3b067 30 = .ok (.ishl, 1) := by decide +kernel
theorem dJ2_getChar_3b067_31 : decode cJ2_getChar_3b067 31 = .ok (.istore_n 1, 1) := by decide +kernel
theorem dJ2_getChar_3b067_32 : decode cJ2_getChar_3b067 32 = .ok (.aload_n 0, 1) := by decide +kernel
theorem dJ2_getChar_3b067_33 : decode cJ2_getChar_3b067 33 = .ok (.iload_n 1, 1) := by decide +kernel
theorem dJ2_getChar_3b067_34 : decode cJ2_getChar_3b067 34 = .ok (.iinc 1 1, 3) := by decide +kernel
theorem dJ2_getChar_3b067_37 : decode cJ2_getChar_3b067 37 = .ok (.baload, 1) := by decide +kernel
theorem dJ2_getChar_3b067_38 : decode cJ2_getChar_3b067 38 = .ok (.sipush 255, 3) := by decide +kernel
theorem dJ2_getChar_3b067_41 : decode cJ2_getChar_3b067 41 = .ok (.iand, 1) := by decide +kernel
theorem dJ2_getChar_3b067_42 : decode cJ2_getChar_3b067 42 = .ok (.getstatic 59, 3) := by decide +kernel
theorem dJ2_getChar_3b067_45 : decode cJ2_getChar_3b067 45 = .ok (.ishl, 1) := by decide +kernel
theorem dJ2_getChar_3b067_46 : decode cJ2_getChar_3b067 46 = .ok (.aload_n 0, 1) := by decide +kernel
theorem dJ2_getChar_3b067_47 : decode cJ2_getChar_3b067 47 = .ok (.iload_n 1, 1) := by decide +kernel
theorem dJ2_getChar_3b067_48 : decode cJ2_getChar_3b067 48 = .ok (.baload, 1) := by decide +kernel
theorem dJ2_getChar_3b067_49 : decode cJ2_getChar_3b067 49 = .ok (.sipush 255, 3) := by decide +kernel
theorem dJ2_getChar_3b067_52 : decode cJ2_getChar_3b067 52 = .ok (.iand, 1) := by decide +kernel
theorem dJ2_getChar_3b067_53 : decode cJ2_getChar_3b067 53 = .ok (.getstatic 63, 3) := by decide +kernel
theorem dJ2_getChar_3b067_56 : decode cJ2_getChar_3b067 56 = .ok (.ishl, 1) := by decide +kernel
theorem dJ2_getChar_3b067_57 : decode cJ2_getChar_3b067 57 = .ok (.ior, 1) := by decide +kernel
theorem dJ2_getChar_3b067_58 : decode cJ2_getChar_3b067 58 = .ok (.i2c, 1) := by decide +kernel
theorem dJ2_getChar_3b067_59 : decode cJ2_getChar_3b067 59 = .ok (.ireturn, 1) := by decide +kernel
theorem dJ2_length_9d52b_0 : decode cJ2_length_9d52b 0 = .ok (.aload_n 0, 1) := by decide +kernel
theorem dJ2_length_9d52b_1 : decode cJ2_length_9d52b 1 = .ok (.arraylength, 1) := by decide +kernel
theorem dJ2_length_9d52b_2 : decode cJ2_length_9d52b 2 = .ok (.iconst 1, 1) := by decide +kernel
theorem dJ2_length_9d52b_3 : decode cJ2_length_9d52b 3 = .ok (.ishr, 1) := by decide +kernel
theorem dJ2_length_9d52b_4 : decode cJ2_length_9d52b 4 = .ok (.ireturn, 1) := by decide +kernel
theorem dJ2_indexOf_4cfef_0 : decode cJ2_indexOf_4cfef 0 = .ok (.iload_n 2, 1) := by decide +kernel
theorem dJ2_indexOf_4cfef_1 : decode cJ2_indexOf_4cfef 1 = .ok (.iconst 0, 1) := by decide +kernel
theorem dJ2_indexOf_4cfef_2 : decode cJ2_indexOf_4cfef 2 = .ok (.invokestatic 224, 3) := by decide +kernel
theorem dJ2_indexOf_4cfef_5 : decode cJ2_indexOf_4cfef 5 = .ok (.istore_n 2, 1) := by decide +kernel
theorem dJ2_indexOf_4cfef_6 : decode cJ2_indexOf_4cfef 6 = .ok (.iload_n 3, 1) := by decide +kernel
theorem dJ2_indexOf_4cfef_7 : decode cJ2_indexOf_4cfef 7 = .ok (.aload_n 0, 1) := by decide +kernel
theorem dJ2_indexOf_4cfef_8 : decode cJ2_indexOf_4cfef 8 = .ok (.arraylength, 1) := by decide +kernel
theorem dJ2_indexOf_4cfef_9 : decode cJ2_indexOf_4cfef 9 = .ok (.iconst 1, 1) := by decide +kernel
theorem dJ2_indexOf_4cfef_10 : decode cJ2_indexOf_4cfef 10 = .ok (.ishr, 1) := by decide +kernel
theorem dJ2_indexOf_4cfef_11 : decode cJ2_indexOf_4cfef 11 = .ok (.invokestatic 183, 3) := by decide +kernel
theorem dJ2_indexOf_4cfef_14 : decode cJ2_indexOf_4cfef 14 = .ok (.istore_n 3, 1) := by decide +kernel
theorem dJ2_indexOf_4cfef_15 : decode cJ2_indexOf_4cfef 15 = .ok (.iload_n 2, 1) := by decide +kernel
theorem dJ2_indexOf_4cfef_16 : decode cJ2_indexOf_4cfef 16 = .ok (.iload_n 3, 1) := by decide +kernel
theorem dJ2_indexOf_4cfef_17 : decode cJ2_indexOf_4cfef 17 = .ok (.if_icmp .lt 5, 3) := by decide +kernel
theorem dJ2_indexOf_4cfef_20 : decode cJ2_indexOf_4cfef 20 = .ok (.iconst (-1), 1) := by decide +kernel
theorem dJ2_indexOf_4cfef_21 : decode cJ2_indexOf_4cfef 21 = .ok (.ireturn, 1) := by decide +kernel
theorem dJ2_indexOf_4cfef_22 : decode cJ2_indexOf_4cfef 22 = .ok (.iload_n 1, 1) := by decide +kernel
theorem dJ2_indexOf_4cfef_23 : decode cJ2_indexOf_4cfef 23 = .ok (.ldc 227, 2) := by decide +kernel
theorem dJ2_indexOf_4cfef_25 : decode cJ2_indexOf_4cfef 25 = .ok (.if_icmp .ge 11, 3) := by decide +kernel
theorem dJ2_indexOf_4cfef_28 : decode cJ2_indexOf_4cfef 28 = .ok (.aload_n 0, 1) := by decide +kernel
theorem dJ2_indexOf_4cfef_29 : decode cJ2_indexOf_4cfef 29 = .ok (.iload_n 1, 1) := by decide +kernel
theorem dJ2_indexOf_4cfef_30 : decode cJ2_indexOf_4cfef 30 = .ok (.iload_n 2, 1) := by decide +kernel
theorem dJ2_indexOf_4cfef_31 : decode cJ2_indexOf_4cfef 31 = .ok (.iload_n 3, 1) := by decide +kernel
theorem dJ2_indexOf_4cfef_32 : decode cJ2_indexOf_4cfef 32 = .ok (.invokestatic 228, 3) := by decide +kernel
theorem dJ2_indexOf_4cfef_35 : decode cJ2_indexOf_4cfef 35 = .ok (.ireturn, 1) := by decide +kernel
theorem dJ2_indexOf_4cfef_36 : decode cJ2_indexOf_4cfef 36 = .ok (.aload_n 0, 1) := by decide +kernel
theorem dJ2_indexOf_4cfef_37 : decode cJ2_indexOf_4cfef 37 = .ok (.iload_n 1, 1) := by decide +kernel
theorem dJ2_indexOf_4cfef_38 : decode cJ2_indexOf_4cfef 38 = .ok (.iload_n 2, 1) := by decide +kernel
theorem dJ2_indexOf_4cfef_39 : decode cJ2_indexOf_4cfef 39 = .ok (.iload_n 3, 1) := by decide +kernel
theorem dJ2_indexOf_4cfef_40 : decode cJ2_indexOf_4cfef 40 = .ok (.invokestatic 232, 3) := by decide +kernel
theorem dJ2_indexOf_4cfef_43 : decode cJ2_indexOf_4cfef 43 = .ok (.ireturn, 1) := by decide +kernel
theorem dJ2_indexOfChar_4cfef_0 : decode cJ2_indexOfChar_4cfef 0 = .ok (.iload_n 2, 1) := by decide +kernel
theorem dJ2_indexOfChar_4cfef_1 : decode cJ2_indexOfChar_4cfef 1 = .ok (.iload_n 3, 1) := by decide +kernel
theorem dJ2_indexOfChar_4cfef_2 : decode cJ2_indexOfChar_4cfef 2 = .ok (.aload_n 0, 1) := by decide +kernel
theorem dJ2_indexOfChar_4cfef_3 : decode cJ2_indexOfChar_4cfef 3 = .ok (.invokestatic 96, 3) := by decide +kernel
theorem dJ2_indexOfChar_4cfef_6 : decode cJ2_indexOfChar_4cfef 6 = .ok (.aload_n 0, 1) := by decide +kernel
theorem dJ2_indexOfChar_4cfef_7 : decode cJ2_indexOfChar_4cfef 7 = .ok (.iload_n 1, 1) := by decide +kernel
theorem dJ2_indexOfChar_4cfef_8 : decode cJ2_indexOfChar_4cfef 8 = .ok (.iload_n 2, 1) := by decide +kernel
theorem dJ2_indexOfChar_4cfef_9 : decode cJ2_indexOfChar_4cfef 9 = .ok (.iload_n 3, 1) := by decide +kernel
theorem dJ2_indexOfChar_4cfef_10 : decode cJ2_indexOfChar_4cfef 10 = .ok (.invokestatic 244, 3) := by decide +kernel
theorem dJ2_indexOfChar_4cfef_13 : decode cJ2_indexOfChar_4cfef 13 = .ok (.ireturn, 1) := by decide +kernel
theorem dJ2_indexOfCharUnsafe_4cfef_0 : decode cJ2_indexOfCharUnsafe_4cfef 0 = .ok (.iload_n 2, 1) := by decide +kernel
theorem dJ2_indexOfCharUnsafe_4cfef_1 : decode cJ2_indexOfCharUnsafe_4cfef 1 = .ok (.istore 4, 2) := by decide +kernel
theorem dJ2_indexOfCharUnsafe_4cfef_3 : decode cJ2_indexOfCharUnsafe_4cfef 3 = .ok (.iload 4, 2) := by decide +kernel
theorem dJ2_indexOfCharUnsafe_4cfef_5 : decode cJ2_indexOfCharUnsafe_4cfef 5 = .ok (.iload_n 3, 1) := by decide +kernel
theorem dJ2_indexOfCharUnsafe_4cfef_6 : decode cJ2_indexOfCharUnsafe_4cfef 6 = .ok (.if_icmp .ge 22, 3) := by decide +kernel
theorem dJ2_indexOfCharUnsafe_4cfef_9 : decode cJ2_indexOfCharUnsafe_4cfef 9 = .ok (.aload_n 0, 1) := by decide +kernel
theorem dJ2_indexOfCharUnsafe_4cfef_10 : decode cJ2_indexOfCharUnsafe_4cfef 10 = .ok (.iload 4, 2) := by decide +kernel
theorem dJ2_indexOfCharUnsafe_4cfef_12 : decode cJ2_indexOfCharUnsafe_4cfef 12 = .ok (.invokestatic 71, 3) := by decide +kernel
theorem dJ2_indexOfCharUnsafe_4cfef_15 : decode cJ2_indexOfCharUnsafe_4cfef 15 = .ok (.iload_n 1, 1) := by decide +kernel
theorem dJ2_indexOfCharUnsafe_4cfef_16 : decode cJ2_indexOfCharUnsafe_4cfef 16 = .ok (.if_icmp .ne 6, 3) := by decide +kernel
theorem dJ2_indexOfCharUnsafe_4cfef_19 : decode cJ2_indexOfCharUnsafe_4cfef 19 = .ok (.iload 4, 2) := by decide +kernel
theorem dJ2_indexOfCharUnsafe_4cfef_21 : decode cJ2_indexOfCharUnsafe_4cfef 21 = .ok (.ireturn, 1) := by decide +kernel
theorem dJ2_indexOfCharUnsafe_4cfef_22 : decode cJ2_indexOfCharUnsafe_4cfef 22 = .ok (.iinc 4 1, 3) := by decide +kernel
theorem dJ2_indexOfCharUnsafe_4cfef_25 : decode cJ2_indexOfCharUnsafe_4cfef 25 = .ok (.goto (-22), 3) := by decide +kernel
theorem dJ2_indexOfCharUnsafe_4cfef_28 : decode cJ2_indexOfCharUnsafe_4cfef 28 = .ok (.iconst (-1), 1) := by decide +kernel
theorem dJ2_indexOfCharUnsafe_4cfef_29 : decode cJ2_indexOfCharUnsafe_4cfef 29 = .ok (.ireturn, 1) := by decide +kernel
theorem dJ2_indexOfSupplementary_4cfef_0 : decode cJ2_indexOfSupplementary_4cfef 0 = .ok (.iload_n 1, 1) := by decide +kernel
theorem dJ2_indexOfSupplementary_4cfef_1 : decode cJ2_indexOfSupplementary_4cfef 1 = .ok (.invokestatic 164, 3) := by decide +kernel
theorem dJ2_indexOfSupplementary_4cfef_4 : decode cJ2_indexOfSupplementary_4cfef 4 = .ok (.ifCond .eq 65, 3) := by decide +kernel
theorem dJ2_indexOfSupplementary_4cfef_7 : decode cJ2_indexOfSupplementary_4cfef 7 = .ok (.iload_n 1, 1) := by decide +kernel
theorem dJ2_indexOfSupplementary_4cfef_8 : decode cJ2_indexOfSupplementary_4cfef 8 = .ok (.invokestatic 157, 3) := by decide +kernel
theorem dJ2_indexOfSupplementary_4cfef_11 : decode cJ2_indexOfSupplementary_4cfef 11 = .ok (.istore 4, 2) := by decide +kernel
theorem dJ2_indexOfSupplementary_4cfef_13 : decode cJ2_indexOfSupplementary_4cfef 13 = .ok (.iload_n 1, 1) := by decide +kernel
theorem dJ2_indexOfSupplementary_4cfef_14 : decode cJ2_indexOfSupplementary_4cfef 14 = .ok (.invokestatic 161, 3) := by decide +kernel
theorem dJ2_indexOfSupplementary_4cfef_17 : decode cJ2_indexOfSupplementary_4cfef 17 = .ok (.istore 5, 2) := by decide +kernel
theorem dJ2_indexOfSupplementary_4cfef_19 : decode cJ2_indexOfSupplementary_4cfef 19 = .ok (.iload_n 2, 1) := by decide +kernel
theorem dJ2_indexOfSupplementary_4cfef_20 : decode cJ2_indexOfSupplementary_4cfef 20 = .ok (.iload_n 3, 1) := by decide +kernel
theorem dJ2_indexOfSupplementary_4cfef_21 : decode cJ2_indexOfSupplementary_4cfef 21 = .ok (.aload_n 0, 1) := by decide +kernel
theorem dJ2_indexOfSupplementary_4cfef_22 : decode cJ2_indexOfSupplementary_4cfef 22 = .ok (.invokestatic 96, 3) := by decide +kernel
theorem dJ2_indexOfSupplementary_4cfef_25 : decode cJ2_indexOfSupplementary_4cfef 25 = .ok (.iload_n 2, 1) := by decide +kernel
theorem dJ2_indexOfSupplementary_4cfef_26 : decode cJ2_indexOfSupplementary_4cfef 26 = .ok (.istore 6, 2) := by decide +kernel
theorem dJ2_indexOfSupplementary_4cfef_28 : decode cJ2_indexOfSupplementary_4cfef 28 = .ok (.iload 6, 2) := by decide +kernel
theorem dJ2_indexOfSupplementary_4cfef_30 : decode cJ2_indexOfSupplementary_4cfef 30 = .ok (.iload_n 3, 1) := by decide +kernel
theorem dJ2_indexOfSupplementary_4cfef_31 : decode cJ2_indexOfSupplementary_4cfef 31 = .ok (.iconst 1, 1) := by decide +kernel
theorem dJ2_indexOfSupplementary_4cfef_32 : decode cJ2_indexOfSupplementary_4cfef 32 = .ok (.isub, 1) := by decide +kernel
theorem dJ2_indexOfSupplementary_4cfef_33 : decode cJ2_indexOfSupplementary_4cfef 33 = .ok (.if_icmp .ge 36, 3) := by decide +kernel
theorem dJ2_indexOfSupplementary_4cfef_36 : decode cJ2_indexOfSupplementary_4cfef 36 = .ok (.aload_n 0, 1) := by decide +kernel
theorem dJ2_indexOfSupplementary_4cfef_37 : decode cJ2_indexOfSupplementary_4cfef 37 = .ok (.iload 6, 2) := by decide +kernel
theorem dJ2_indexOfSupplementary_4cfef_39 : decode cJ2_indexOfSupplementary_4cfef 39 = .ok (.invokestatic 71, 3) := by decide +kernel
theorem dJ2_indexOfSupplementary_4cfef_42 : decode cJ2_indexOfSupplementary_4cfef 42 = .ok (.iload 4, 2) := by decide +kernel
theorem dJ2_indexOfSupplementary_4cfef_44 : decode cJ2_indexOfSupplementary_4cfef 44 = .ok (.if_icmp .ne 19, 3) := by decide +kernel
theorem dJ2_indexOfSupplementary_4cfef_47 : decode cJ2_indexOfSupplementary_4cfef 47 = .ok (.aload_n 0, 1) := by decide +kernel
theorem dJ2_indexOfSupplementary_4cfef_48 : decode cJ2_indexOfSupplementary_4cfef 48 = .ok (.iload 6, 2) := by decide +kernel
theorem dJ2_indexOfSupplementary_4cfef_50 : decode cJ2_indexOfSupplementary_4cfef 50 = .ok (.iconst 1, 1) := by decide +kernel
theorem dJ2_indexOfSupplementary_4cfef_51 : decode cJ2_indexOfSupplementary_4cfef 51 = .ok (.iadd, 1) := by decide +kernel
theorem dJ2_indexOfSupplementary_4cfef_52 : decode cJ2_indexOfSupplementary_4cfef 52 = .ok (.invokestatic 71, 3) := by decide +kernel
theorem dJ2_indexOfSupplementary_4cfef_55 : decode cJ2_indexOfSupplementary_4cfef 55 = .ok (.iload 5, 2) := by decide +kernel
theorem dJ2_indexOfSupplementary_4cfef_57 : decode cJ2_indexOfSupplementary_4cfef 57 = .ok (.if_icmp .ne 6, 3) := by decide +kernel
theorem dJ2_indexOfSupplementary_4cfef_60 : decode cJ2_indexOfSupplementary_4cfef 60 = .ok (.iload 6, 2) := by decide +kernel
theorem dJ2_indexOfSupplementary_4cfef_62 : decode cJ2_indexOfSupplementary_4cfef 62 = .ok (.ireturn, 1) := by decide +kernel
theorem dJ2_indexOfSupplementary_4cfef_63 : decode cJ2_indexOfSupplementary_4cfef 63 = .ok (.iinc 6 1, 3) := by decide +kernel
theorem dJ2_indexOfSupplementary_4cfef_66 : decode cJ2_indexOfSupplementary_4cfef 66 = .ok (.goto (-38), 3) := by decide +kernel
theorem dJ2_indexOfSupplementary_4cfef_69 : decode cJ2_indexOfSupplementary_4cfef 69 = .ok (.iconst (-1), 1) := by decide +kernel
theorem dJ2_indexOfSupplementary_4cfef_70 : decode cJ2_indexOfSupplementary_4cfef 70 = .ok (.ireturn, 1) := by decide +kernel
theorem dJ2_checkBoundsBeginEnd_d044e_0 : decode cJ2_checkBoundsBeginEnd_d044e 0 = .ok (.iload_n 0, 1) := by decide +kernel
theorem dJ2_checkBoundsBeginEnd_d044e_1 : decode cJ2_checkBoundsBeginEnd_d044e 1 = .ok (.iload_n 1, 1) := by decide +kernel
theorem dJ2_checkBoundsBeginEnd_d044e_2 : decode cJ2_checkBoundsBeginEnd_d044e 2 = .ok (.aload_n 2, 1) := by decide +kernel
theorem dJ2_checkBoundsBeginEnd_d044e_3 : decode cJ2_checkBoundsBeginEnd_d044e 3 = .ok (.invokestatic 48, 3) := by decide +kernel
theorem dJ2_checkBoundsBeginEnd_d044e_6 : decode cJ2_checkBoundsBeginEnd_d044e 6 = .ok (.invokestatic 241, 3) := by decide +kernel
theorem dJ2_checkBoundsBeginEnd_d044e_9 : decode cJ2_checkBoundsBeginEnd_d044e 9 = .ok (.return_, 1) := by decide +kernel
theorem dJ3_checkFromToIndex_8c36e_0 : decode cJ3_checkFromToIndex_8c36e 0 = .ok (.iload_n 0, 1) := by decide +kernel
theorem dJ3_checkFromToIndex_8c36e_1 : decode cJ3_checkFromToIndex_8c36e 1 = .ok (.ifCond .lt 13, 3) := by decide +kernel
theorem dJ3_checkFromToIndex_8c36e_4 : decode cJ3_checkFromToIndex_8c36e 4 = .ok (.iload_n 0, 1) := by decide +kernel
theorem dJ3_checkFromToIndex_8c36e_5 : decode cJ3_checkFromToIndex_8c36e 5 = .ok (.iload_n 1, 1) := by decide +kernel
theorem dJ3_checkFromToIndex_8c36e_6 : decode cJ3_checkFromToIndex_8c36e 6 = .ok (.if_icmp .gt 8, 3) := by decide +kernel
theorem dJ3_checkFromToIndex_8c36e_9 : decode cJ3_checkFromToIndex_8c36e 9 = .ok (.iload_n 1, 1) := by decide +kernel
theorem dJ3_checkFromToIndex_8c36e_10 : decode cJ3_checkFromToIndex_8c36e 10 = .ok (.iload_n 2, 1) := by decide +kernel
theorem dJ3_checkFromToIndex_8c36e_11 : decode cJ3_checkFromToIndex_8c36e 11 = .ok (.if_icmp .le 11, 3) := by decide +kernel
theorem dJ3_checkFromToIndex_8c36e_14 : decode cJ3_checkFromToIndex_8c36e 14 = .ok (.aload_n 3, 1) := by decide +kernel
theorem dJ3_checkFromToIndex_8c36e_15 : decode cJ3_checkFromToIndex_8c36e 15 = .ok (.iload_n 0, 1) := by decide +kernel
theorem dJ3_checkFromToIndex_8c36e_16 : decode cJ3_checkFromToIndex_8c36e 16 = .ok (.iload_n 1, 1) := by decide +kernel
theorem dJ3_checkFromToIndex_8c36e_17 : decode cJ3_checkFromToIndex_8c36e 17 = .ok (.iload_n 2, 1) := by decide +kernel
theorem dJ3_checkFromToIndex_8c36e_18 : decode cJ3_checkFromToIndex_8c36e 18 = .ok (.invokestatic 99, 3) := by decide +kernel
theorem dJ3_checkFromToIndex_8c36e_21 : decode cJ3_checkFromToIndex_8c36e 21 = .ok (.athrow, 1) := by decide +kernel
theorem dJ3_checkFromToIndex_8c36e_22 : decode cJ3_checkFromToIndex_8c36e 22 = .ok (.iload_n 0, 1) := by decide +kernel
theorem dJ3_checkFromToIndex_8c36e_23 : decode cJ3_checkFromToIndex_8c36e 23 = .ok (.ireturn, 1) := by decide +kernel
theorem dL_cell_0 : decode cL_cell 0 = .ok (.aload 4, 2) := by decide +kernel
theorem dL_cell_2 : decode cL_cell 2 = .ok (.iconst 0, 1) := by decide +kernel
theorem dL_cell_3 : decode cL_cell 3 = .ok (.aload_n 0, 1) := by decide +kernel
theorem dL_cell_4 : decode cL_cell 4 = .ok (.iload_n 1, 1) := by decide +kernel
theorem dL_cell_5 : decode cL_cell 5 = .ok (.iload_n 2, 1) := by decide +kernel
theorem dL_cell_6 : decode cL_cell 6 = .ok (.iload_n 3, 1) := by decide +kernel
theorem dL_cell_7 : decode cL_cell 7 = .ok (.invokevirtual 7, 3) := by decide +kernel
theorem dL_cell_10 : decode cL_cell 10 = .ok (.lastore, 1) := by decide +kernel
theorem dL_cell_11 : decode cL_cell 11 = .ok (.goto 7, 3) := by decide +kernel
theorem dL_cell_14 : decode cL_cell 14 = .ok (.astore 5, 2) := by decide +kernel
theorem dL_cell_16 : decode cL_cell 16 = .ok (.iconst 1, 1) := by decide +kernel
theorem dL_cell_17 : decode cL_cell 17 = .ok (.ireturn, 1) := by decide +kernel
theorem dL_cell_18 : decode cL_cell 18 = .ok (.iconst 0, 1) := by decide +kernel
theorem dL_cell_19 : decode cL_cell 19 = .ok (.ireturn, 1) := by decide +kernel
theorem dL_law_0 : decode cL_law 0 = .ok (.new 8, 3) := by decide +kernel
theorem dL_law_3 : decode cL_law 3 = .ok (.dup, 1) := by decide +kernel
theorem dL_law_4 : decode cL_law 4 = .ok (.invokespecial 15, 3) := by decide +kernel
theorem dL_law_7 : decode cL_law 7 = .ok (.astore_n 1, 1) := by decide +kernel
theorem dL_law_8 : decode cL_law 8 = .ok (.new 16, 3) := by decide +kernel
theorem dL_law_11 : decode cL_law 11 = .ok (.dup, 1) := by decide +kernel
theorem dL_law_12 : decode cL_law 12 = .ok (.invokespecial 18, 3) := by decide +kernel
theorem dL_law_15 : decode cL_law 15 = .ok (.astore_n 2, 1) := by decide +kernel
theorem dL_law_16 : decode cL_law 16 = .ok (.iconst 1, 1) := by decide +kernel
theorem dL_law_17 : decode cL_law 17 = .ok (.newarray .long, 2) := by decide +kernel
theorem dL_law_19 : decode cL_law 19 = .ok (.astore_n 3, 1) := by decide +kernel
theorem dL_law_20 : decode cL_law 20 = .ok (.iconst 0, 1) := by decide +kernel
theorem dL_law_21 : decode cL_law 21 = .ok (.istore 4, 2) := by decide +kernel
theorem dL_law_23 : decode cL_law 23 = .ok (.iload 4, 2) := by decide +kernel
theorem dL_law_25 : decode cL_law 25 = .ok (.aload_n 0, 1) := by decide +kernel
theorem dL_law_26 : decode cL_law 26 = .ok (.arraylength, 1) := by decide +kernel
theorem dL_law_27 : decode cL_law 27 = .ok (.iconst 4, 1) := by decide +kernel
theorem dL_law_28 : decode cL_law 28 = .ok (.isub, 1) := by decide +kernel
theorem dL_law_29 : decode cL_law 29 = .ok (.if_icmp .gt 738, 3) := by decide +kernel
theorem dL_law_32 : decode cL_law 32 = .ok (.aload_n 0, 1) := by decide +kernel
theorem dL_law_33 : decode cL_law 33 = .ok (.iload 4, 2) := by decide +kernel
theorem dL_law_35 : decode cL_law 35 = .ok (.iaload, 1) := by decide +kernel
theorem dL_law_36 : decode cL_law 36 = .ok (.bipush 31, 2) := by decide +kernel
theorem dL_law_38 : decode cL_law 38 = .ok (.iand, 1) := by decide +kernel
theorem dL_law_39 : decode cL_law 39 = .ok (.tableswitch 722 0 17 #[85, 138, 175, 244, 257, 306, 319, 368, 393, 406, 420, 445, 494, 519, 556, 581, 618, 697], 85) := by decide +kernel
theorem dL_law_124 : decode cL_law 124 = .ok (.aload_n 1, 1) := by decide +kernel
theorem dL_law_125 : decode cL_law 125 = .ok (.aload_n 0, 1) := by decide +kernel
theorem dL_law_126 : decode cL_law 126 = .ok (.iload 4, 2) := by decide +kernel
theorem dL_law_128 : decode cL_law 128 = .ok (.iconst 1, 1) := by decide +kernel
theorem dL_law_129 : decode cL_law 129 = .ok (.iadd, 1) := by decide +kernel
theorem dL_law_130 : decode cL_law 130 = .ok (.iaload, 1) := by decide +kernel
theorem dL_law_131 : decode cL_law 131 = .ok (.aload_n 0, 1) := by decide +kernel
theorem dL_law_132 : decode cL_law 132 = .ok (.iload 4, 2) := by decide +kernel
theorem dL_law_134 : decode cL_law 134 = .ok (.iconst 2, 1) := by decide +kernel
theorem dL_law_135 : decode cL_law 135 = .ok (.iadd, 1) := by decide +kernel
theorem dL_law_136 : decode cL_law 136 = .ok (.iaload, 1) := by decide +kernel
theorem dL_law_137 : decode cL_law 137 = .ok (.ifCond .eq 7, 3) := by decide +kernel
theorem dL_law_140 : decode cL_law 140 = .ok (.iconst 1, 1) := by decide +kernel
theorem dL_law_141 : decode cL_law 141 = .ok (.goto 4, 3) := by decide +kernel
theorem dL_law_144 : decode cL_law 144 = .ok (.iconst 0, 1) := by decide +kernel
theorem dL_law_145 : decode cL_law 145 = .ok (.invokevirtual 19, 3) := by decide +kernel
theorem dL_law_148 : decode cL_law 148 = .ok (.aload_n 2, 1) := by decide +kernel
theorem dL_law_149 : decode cL_law 149 = .ok (.aload_n 0, 1) := by decide +kernel
theorem dL_law_150 : decode cL_law 150 = .ok (.iload 4, 2) := by decide +kernel
theorem dL_law_152 : decode cL_law 152 = .ok (.iconst 1, 1) := by decide +kernel
theorem dL_law_153 : decode cL_law 153 = .ok (.iadd, 1) := by decide +kernel
theorem dL_law_154 : decode cL_law 154 = .ok (.iaload, 1) := by decide +kernel
theorem dL_law_155 : decode cL_law 155 = .ok (.aload_n 0, 1) := by decide +kernel
theorem dL_law_156 : decode cL_law 156 = .ok (.iload 4, 2) := by decide +kernel
theorem dL_law_158 : decode cL_law 158 = .ok (.iconst 2, 1) := by decide +kernel
theorem dL_law_159 : decode cL_law 159 = .ok (.iadd, 1) := by decide +kernel
theorem dL_law_160 : decode cL_law 160 = .ok (.iaload, 1) := by decide +kernel
theorem dL_law_161 : decode cL_law 161 = .ok (.ifCond .eq 7, 3) := by decide +kernel
theorem dL_law_164 : decode cL_law 164 = .ok (.iconst 1, 1) := by decide +kernel
theorem dL_law_165 : decode cL_law 165 = .ok (.goto 4, 3) := by decide +kernel
theorem dL_law_168 : decode cL_law 168 = .ok (.iconst 0, 1) := by decide +kernel
theorem dL_law_169 : decode cL_law 169 = .ok (.invokevirtual 23, 3) := by decide +kernel
theorem dL_law_172 : decode cL_law 172 = .ok (.if_icmp .eq 589, 3) := by decide +kernel
theorem dL_law_175 : decode cL_law 175 = .ok (.iconst 0, 1) := by decide +kernel
theorem dL_law_176 : decode cL_law 176 = .ok (.ireturn, 1) := by decide +kernel
theorem dL_law_177 : decode cL_law 177 = .ok (.aload_n 1, 1) := by decide +kernel
theorem dL_law_178 : decode cL_law 178 = .ok (.aload_n 0, 1) := by decide +kernel
theorem dL_law_179 : decode cL_law 179 = .ok (.iload 4, 2) := by decide +kernel
theorem dL_law_181 : decode cL_law 181 = .ok (.iconst 1, 1) := by decide +kernel
theorem dL_law_182 : decode cL_law 182 = .ok (.iadd, 1) := by decide +kernel
theorem dL_law_183 : decode cL_law 183 = .ok (.iaload, 1) := by decide +kernel
theorem dL_law_184 : decode cL_law 184 = .ok (.aload_n 0, 1) := by decide +kernel
theorem dL_law_185 : decode cL_law 185 = .ok (.iload 4, 2) := by decide +kernel
theorem dL_law_187 : decode cL_law 187 = .ok (.iconst 2, 1) := by decide +kernel
theorem dL_law_188 : decode cL_law 188 = .ok (.iadd, 1) := by decide +kernel
theorem dL_law_189 : decode cL_law 189 = .ok (.iaload, 1) := by decide +kernel
theorem dL_law_190 : decode cL_law 190 = .ok (.invokevirtual 24, 3) := by decide +kernel
theorem dL_law_193 : decode cL_law 193 = .ok (.aload_n 2, 1) := by decide +kernel
theorem dL_law_194 : decode cL_law 194 = .ok (.aload_n 0, 1) := by decide +kernel
theorem dL_law_195 : decode cL_law 195 = .ok (.iload 4, 2) := by decide +kernel
theorem dL_law_197 : decode cL_law 197 = .ok (.iconst 1, 1) := by decide +kernel
theorem dL_law_198 : decode cL_law 198 = .ok (.iadd, 1) := by decide +kernel
theorem dL_law_199 : decode cL_law 199 = .ok (.iaload, 1) := by decide +kernel
theorem dL_law_200 : decode cL_law 200 = .ok (.aload_n 0, 1) := by decide +kernel
theorem dL_law_201 : decode cL_law 201 = .ok (.iload 4, 2) := by decide +kernel
theorem dL_law_203 : decode cL_law 203 = .ok (.iconst 2, 1) := by decide +kernel
theorem dL_law_204 : decode cL_law 204 = .ok (.iadd, 1) := by decide +kernel
theorem dL_law_205 : decode cL_law 205 = .ok (.iaload, 1) := by decide +kernel
theorem dL_law_206 : decode cL_law 206 = .ok (.invokevirtual 28, 3) := by decide +kernel
theorem dL_law_209 : decode cL_law 209 = .ok (.if_icmp .eq 552, 3) := by decide +kernel
theorem dL_law_212 : decode cL_law 212 = .ok (.iconst 0, 1) := by decide +kernel
theorem dL_law_213 : decode cL_law 213 = .ok (.ireturn, 1) := by decide +kernel
theorem dL_law_214 : decode cL_law 214 = .ok (.aload_n 1, 1) := by decide +kernel
theorem dL_law_215 : decode cL_law 215 = .ok (.aload_n 0, 1) := by decide +kernel
theorem dL_law_216 : decode cL_law 216 = .ok (.iload 4, 2) := by decide +kernel
theorem dL_law_218 : decode cL_law 218 = .ok (.iconst 1, 1) := by decide +kernel
theorem dL_law_219 : decode cL_law 219 = .ok (.iadd, 1) := by decide +kernel
theorem dL_law_220 : decode cL_law 220 = .ok (.iaload, 1) := by decide +kernel
theorem dL_law_221 : decode cL_law 221 = .ok (.aload_n 0, 1) := by decide +kernel
theorem dL_law_222 : decode cL_law 222 = .ok (.iload 4, 2) := by decide +kernel
theorem dL_law_224 : decode cL_law 224 = .ok (.iconst 2, 1) := by decide +kernel
theorem dL_law_225 : decode cL_law 225 = .ok (.iadd, 1) := by decide +kernel
theorem dL_law_226 : decode cL_law 226 = .ok (.iaload, 1) := by decide +kernel
theorem dL_law_227 : decode cL_law 227 = .ok (.i2l, 1) := by decide +kernel
theorem dL_law_228 : decode cL_law 228 = .ok (.bipush 32, 2) := by decide +kernel
theorem dL_law_230 : decode cL_law 230 = .ok (.lshl, 1) := by decide +kernel
theorem dL_law_231 : decode cL_law 231 = .ok (.aload_n 0, 1) := by decide +kernel
theorem dL_law_232 : decode cL_law 232 = .ok (.iload 4, 2) := by decide +kernel
theorem dL_law_234 : decode cL_law 234 = .ok (.iconst 3, 1) := by decide +kernel
theorem dL_law_235 : decode cL_law 235 = .ok (.iadd, 1) := by decide +kernel
theorem dL_law_236 : decode cL_law 236 = .ok (.iaload, 1) := by decide +kernel
theorem dL_law_237 : decode cL_law 237 = .ok (.i2l, 1) := by decide +kernel
theorem dL_law_238 : decode cL_law 238 = .ok (.ldc2_w 29, 3) := by decide +kernel
theorem dL_law_241 : decode cL_law 241 = .ok (.land, 1) := by decide +kernel
theorem dL_law_242 : decode cL_law 242 = .ok (.lor, 1) := by decide +kernel
theorem dL_law_243 : decode cL_law 243 = .ok (.invokevirtual 31, 3) := by decide +kernel
theorem dL_law_246 : decode cL_law 246 = .ok (.aload_n 2, 1) := by decide +kernel
theorem dL_law_247 : decode cL_law 247 = .ok (.aload_n 0, 1) := by decide +kernel
theorem dL_law_248 : decode cL_law 248 = .ok (.iload 4, 2) := by decide +kernel
theorem dL_law_250 : decode cL_law 250 = .ok (.iconst 1, 1) := by decide +kernel
theorem dL_law_251 : decode cL_law 251 = .ok (.iadd, 1) := by decide +kernel
theorem dL_law_252 : decode cL_law 252 = .ok (.iaload, 1) := by decide +kernel
theorem dL_law_253 : decode cL_law 253 = .ok (.aload_n 0, 1) := by decide +kernel
theorem dL_law_254 : decode cL_law 254 = .ok (.iload 4, 2) := by decide +kernel
theorem dL_law_256 : decode cL_law 256 = .ok (.iconst 2, 1) := by decide +kernel
theorem dL_law_257 : decode cL_law 257 = .ok (.iadd, 1) := by decide +kernel
theorem dL_law_258 : decode cL_law 258 = .ok (.iaload, 1) := by decide +kernel
theorem dL_law_259 : decode cL_law 259 = .ok (.i2l, 1) := by decide +kernel
theorem dL_law_260 : decode cL_law 260 = .ok (.bipush 32, 2) := by decide +kernel
theorem dL_law_262 : decode cL_law 262 = .ok (.lshl, 1) := by decide +kernel
theorem dL_law_263 : decode cL_law 263 = .ok (.aload_n 0, 1) := by decide +kernel
theorem dL_law_264 : decode cL_law 264 = .ok (.iload 4, 2) := by decide +kernel
theorem dL_law_266 : decode cL_law 266 = .ok (.iconst 3, 1) := by decide +kernel
theorem dL_law_267 : decode cL_law 267 = .ok (.iadd, 1) := by decide +kernel
theorem dL_law_268 : decode cL_law 268 = .ok (.iaload, 1) := by decide +kernel
theorem dL_law_269 : decode cL_law 269 = .ok (.i2l, 1) := by decide +kernel
theorem dL_law_270 : decode cL_law 270 = .ok (.ldc2_w 29, 3) := by decide +kernel
theorem dL_law_273 : decode cL_law 273 = .ok (.land, 1) := by decide +kernel
theorem dL_law_274 : decode cL_law 274 = .ok (.lor, 1) := by decide +kernel
theorem dL_law_275 : decode cL_law 275 = .ok (.invokevirtual 35, 3) := by decide +kernel
theorem dL_law_278 : decode cL_law 278 = .ok (.if_icmp .eq 483, 3) := by decide +kernel
theorem dL_law_281 : decode cL_law 281 = .ok (.iconst 0, 1) := by decide +kernel
theorem dL_law_282 : decode cL_law 282 = .ok (.ireturn, 1) := by decide +kernel
theorem dL_law_283 : decode cL_law 283 = .ok (.aload_n 1, 1) := by decide +kernel
theorem dL_law_284 : decode cL_law 284 = .ok (.invokevirtual 36, 3) := by decide +kernel
theorem dL_law_287 : decode cL_law 287 = .ok (.aload_n 2, 1) := by decide +kernel
theorem dL_law_288 : decode cL_law 288 = .ok (.invokevirtual 40, 3) := by decide +kernel
theorem dL_law_291 : decode cL_law 291 = .ok (.if_icmp .eq 470, 3) := by decide +kernel
theorem dL_law_294 : decode cL_law 294 = .ok (.iconst 0, 1) := by decide +kernel
theorem dL_law_295 : decode cL_law 295 = .ok (.ireturn, 1) := by decide +kernel
theorem dL_law_296 : decode cL_law 296 = .ok (.aload_n 1, 1) := by decide +kernel
theorem dL_law_297 : decode cL_law 297 = .ok (.aload_n 0, 1) := by decide +kernel
theorem dL_law_298 : decode cL_law 298 = .ok (.iload 4, 2) := by decide +kernel
theorem dL_law_300 : decode cL_law 300 = .ok (.iconst 1, 1) := by decide +kernel
theorem dL_law_301 : decode cL_law 301 = .ok (.iadd, 1) := by decide +kernel
theorem dL_law_302 : decode cL_law 302 = .ok (.iaload, 1) := by decide +kernel
theorem dL_law_303 : decode cL_law 303 = .ok (.aload_n 0, 1) := by decide +kernel
theorem dL_law_304 : decode cL_law 304 = .ok (.iload 4, 2) := by decide +kernel
theorem dL_law_306 : decode cL_law 306 = .ok (.iconst 2, 1) := by decide +kernel
theorem dL_law_307 : decode cL_law 307 = .ok (.iadd, 1) := by decide +kernel
theorem dL_law_308 : decode cL_law 308 = .ok (.iaload, 1) := by decide +kernel
theorem dL_law_309 : decode cL_law 309 = .ok (.aload_n 0, 1) := by decide +kernel
theorem dL_law_310 : decode cL_law 310 = .ok (.iload 4, 2) := by decide +kernel
theorem dL_law_312 : decode cL_law 312 = .ok (.iconst 3, 1) := by decide +kernel
theorem dL_law_313 : decode cL_law 313 = .ok (.iadd, 1) := by decide +kernel
theorem dL_law_314 : decode cL_law 314 = .ok (.iaload, 1) := by decide +kernel
theorem dL_law_315 : decode cL_law 315 = .ok (.invokevirtual 41, 3) := by decide +kernel
theorem dL_law_318 : decode cL_law 318 = .ok (.aload_n 2, 1) := by decide +kernel
theorem dL_law_319 : decode cL_law 319 = .ok (.aload_n 0, 1) := by decide +kernel
theorem dL_law_320 : decode cL_law 320 = .ok (.iload 4, 2) := by decide +kernel
theorem dL_law_322 : decode cL_law 322 = .ok (.iconst 1, 1) := by decide +kernel
theorem dL_law_323 : decode cL_law 323 = .ok (.iadd, 1) := by decide +kernel
theorem dL_law_324 : decode cL_law 324 = .ok (.iaload, 1) := by decide +kernel
theorem dL_law_325 : decode cL_law 325 = .ok (.aload_n 0, 1) := by decide +kernel
theorem dL_law_326 : decode cL_law 326 = .ok (.iload 4, 2) := by decide +kernel
theorem dL_law_328 : decode cL_law 328 = .ok (.iconst 2, 1) := by decide +kernel
theorem dL_law_329 : decode cL_law 329 = .ok (.iadd, 1) := by decide +kernel
theorem dL_law_330 : decode cL_law 330 = .ok (.iaload, 1) := by decide +kernel
theorem dL_law_331 : decode cL_law 331 = .ok (.aload_n 0, 1) := by decide +kernel
theorem dL_law_332 : decode cL_law 332 = .ok (.iload 4, 2) := by decide +kernel
theorem dL_law_334 : decode cL_law 334 = .ok (.iconst 3, 1) := by decide +kernel
theorem dL_law_335 : decode cL_law 335 = .ok (.iadd, 1) := by decide +kernel
theorem dL_law_336 : decode cL_law 336 = .ok (.iaload, 1) := by decide +kernel
theorem dL_law_337 : decode cL_law 337 = .ok (.invokevirtual 45, 3) := by decide +kernel
theorem dL_law_340 : decode cL_law 340 = .ok (.if_icmp .eq 421, 3) := by decide +kernel
theorem dL_law_343 : decode cL_law 343 = .ok (.iconst 0, 1) := by decide +kernel
theorem dL_law_344 : decode cL_law 344 = .ok (.ireturn, 1) := by decide +kernel
theorem dL_law_345 : decode cL_law 345 = .ok (.aload_n 1, 1) := by decide +kernel
theorem dL_law_346 : decode cL_law 346 = .ok (.invokevirtual 46, 3) := by decide +kernel
theorem dL_law_349 : decode cL_law 349 = .ok (.aload_n 2, 1) := by decide +kernel
theorem dL_law_350 : decode cL_law 350 = .ok (.invokevirtual 49, 3) := by decide +kernel
theorem dL_law_353 : decode cL_law 353 = .ok (.if_icmp .eq 408, 3) := by decide +kernel
theorem dL_law_356 : decode cL_law 356 = .ok (.iconst 0, 1) := by decide +kernel
theorem dL_law_357 : decode cL_law 357 = .ok (.ireturn, 1) := by decide +kernel
theorem dL_law_358 : decode cL_law 358 = .ok (.aload_n 1, 1) := by decide +kernel
theorem dL_law_359 : decode cL_law 359 = .ok (.aload_n 0, 1) := by decide +kernel
theorem dL_law_360 : decode cL_law 360 = .ok (.iload 4, 2) := by decide +kernel
theorem dL_law_362 : decode cL_law 362 = .ok (.iconst 1, 1) := by decide +kernel
theorem dL_law_363 : decode cL_law 363 = .ok (.iadd, 1) := by decide +kernel
theorem dL_law_364 : decode cL_law 364 = .ok (.iaload, 1) := by decide +kernel
theorem dL_law_365 : decode cL_law 365 = .ok (.aload_n 0, 1) := by decide +kernel
theorem dL_law_366 : decode cL_law 366 = .ok (.iload 4, 2) := by decide +kernel
theorem dL_law_368 : decode cL_law 368 = .ok (.iconst 2, 1) := by decide +kernel
theorem dL_law_369 : decode cL_law 369 = .ok (.iadd, 1) := by decide +kernel
theorem dL_law_370 : decode cL_law 370 = .ok (.iaload, 1) := by decide +kernel
theorem dL_law_371 : decode cL_law 371 = .ok (.aload_n 0, 1) := by decide +kernel
theorem dL_law_372 : decode cL_law 372 = .ok (.iload 4, 2) := by decide +kernel
theorem dL_law_374 : decode cL_law 374 = .ok (.iconst 3, 1) := by decide +kernel
theorem dL_law_375 : decode cL_law 375 = .ok (.iadd, 1) := by decide +kernel
theorem dL_law_376 : decode cL_law 376 = .ok (.iaload, 1) := by decide +kernel
theorem dL_law_377 : decode cL_law 377 = .ok (.invokevirtual 50, 3) := by decide +kernel
theorem dL_law_380 : decode cL_law 380 = .ok (.aload_n 2, 1) := by decide +kernel
theorem dL_law_381 : decode cL_law 381 = .ok (.aload_n 0, 1) := by decide +kernel
theorem dL_law_382 : decode cL_law 382 = .ok (.iload 4, 2) := by decide +kernel
theorem dL_law_384 : decode cL_law 384 = .ok (.iconst 1, 1) := by decide +kernel
theorem dL_law_385 : decode cL_law 385 = .ok (.iadd, 1) := by decide +kernel
theorem dL_law_386 : decode cL_law 386 = .ok (.iaload, 1) := by decide +kernel
theorem dL_law_387 : decode cL_law 387 = .ok (.aload_n 0, 1) := by decide +kernel
theorem dL_law_388 : decode cL_law 388 = .ok (.iload 4, 2) := by decide +kernel
theorem dL_law_390 : decode cL_law 390 = .ok (.iconst 2, 1) := by decide +kernel
theorem dL_law_391 : decode cL_law 391 = .ok (.iadd, 1) := by decide +kernel
theorem dL_law_392 : decode cL_law 392 = .ok (.iaload, 1) := by decide +kernel
theorem dL_law_393 : decode cL_law 393 = .ok (.aload_n 0, 1) := by decide +kernel
theorem dL_law_394 : decode cL_law 394 = .ok (.iload 4, 2) := by decide +kernel
theorem dL_law_396 : decode cL_law 396 = .ok (.iconst 3, 1) := by decide +kernel
theorem dL_law_397 : decode cL_law 397 = .ok (.iadd, 1) := by decide +kernel
theorem dL_law_398 : decode cL_law 398 = .ok (.iaload, 1) := by decide +kernel
theorem dL_law_399 : decode cL_law 399 = .ok (.invokevirtual 53, 3) := by decide +kernel
theorem dL_law_402 : decode cL_law 402 = .ok (.if_icmp .eq 359, 3) := by decide +kernel
theorem dL_law_405 : decode cL_law 405 = .ok (.iconst 0, 1) := by decide +kernel
theorem dL_law_406 : decode cL_law 406 = .ok (.ireturn, 1) := by decide +kernel
theorem dL_law_407 : decode cL_law 407 = .ok (.aload_n 1, 1) := by decide +kernel
theorem dL_law_408 : decode cL_law 408 = .ok (.aload_n 0, 1) := by decide +kernel
theorem dL_law_409 : decode cL_law 409 = .ok (.iload 4, 2) := by decide +kernel
theorem dL_law_411 : decode cL_law 411 = .ok (.iconst 1, 1) := by decide +kernel
theorem dL_law_412 : decode cL_law 412 = .ok (.iadd, 1) := by decide +kernel
theorem dL_law_413 : decode cL_law 413 = .ok (.iaload, 1) := by decide +kernel
theorem dL_law_414 : decode cL_law 414 = .ok (.invokevirtual 54, 3) := by decide +kernel
theorem dL_law_417 : decode cL_law 417 = .ok (.aload_n 2, 1) := by decide +kernel
theorem dL_law_418 : decode cL_law 418 = .ok (.aload_n 0, 1) := by decide +kernel
theorem dL_law_419 : decode cL_law 419 = .ok (.iload 4, 2) := by decide +kernel
theorem dL_law_421 : decode cL_law 421 = .ok (.iconst 1, 1) := by decide +kernel
theorem dL_law_422 : decode cL_law 422 = .ok (.iadd, 1) := by decide +kernel
theorem dL_law_423 : decode cL_law 423 = .ok (.iaload, 1) := by decide +kernel
theorem dL_law_424 : decode cL_law 424 = .ok (.invokevirtual 58, 3) := by decide +kernel
theorem dL_law_427 : decode cL_law 427 = .ok (.if_icmp .eq 334, 3) := by decide +kernel
theorem dL_law_430 : decode cL_law 430 = .ok (.iconst 0, 1) := by decide +kernel
theorem dL_law_431 : decode cL_law 431 = .ok (.ireturn, 1) := by decide +kernel
theorem dL_law_432 : decode cL_law 432 = .ok (.aload_n 1, 1) := by decide +kernel
theorem dL_law_433 : decode cL_law 433 = .ok (.invokevirtual 59, 3) := by decide +kernel
theorem dL_law_436 : decode cL_law 436 = .ok (.aload_n 2, 1) := by decide +kernel
theorem dL_law_437 : decode cL_law 437 = .ok (.invokevirtual 62, 3) := by decide +kernel
theorem dL_law_440 : decode cL_law 440 = .ok (.if_icmp .eq 321, 3) := by decide +kernel
theorem dL_law_443 : decode cL_law 443 = .ok (.iconst 0, 1) := by decide +kernel
theorem dL_law_444 : decode cL_law 444 = .ok (.ireturn, 1) := by decide +kernel
theorem dL_law_445 : decode cL_law 445 = .ok (.aload_n 1, 1) := by decide +kernel
theorem dL_law_446 : decode cL_law 446 = .ok (.invokevirtual 63, 3) := by decide +kernel
theorem dL_law_449 : decode cL_law 449 = .ok (.aload_n 2, 1) := by decide +kernel
theorem dL_law_450 : decode cL_law 450 = .ok (.invokevirtual 67, 3) := by decide +kernel
theorem dL_law_453 : decode cL_law 453 = .ok (.lcmp, 1) := by decide +kernel
theorem dL_law_454 : decode cL_law 454 = .ok (.ifCond .eq 307, 3) := by decide +kernel
theorem dL_law_457 : decode cL_law 457 = .ok (.iconst 0, 1) := by decide +kernel
theorem dL_law_458 : decode cL_law 458 = .ok (.ireturn, 1) := by decide +kernel
theorem dL_law_459 : decode cL_law 459 = .ok (.aload_n 1, 1) := by decide +kernel
theorem dL_law_460 : decode cL_law 460 = .ok (.aload_n 0, 1) := by decide +kernel
theorem dL_law_461 : decode cL_law 461 = .ok (.iload 4, 2) := by decide +kernel
theorem dL_law_463 : decode cL_law 463 = .ok (.iconst 1, 1) := by decide +kernel
theorem dL_law_464 : decode cL_law 464 = .ok (.iadd, 1) := by decide +kernel
theorem dL_law_465 : decode cL_law 465 = .ok (.iaload, 1) := by decide +kernel
theorem dL_law_466 : decode cL_law 466 = .ok (.invokevirtual 68, 3) := by decide +kernel
theorem dL_law_469 : decode cL_law 469 = .ok (.aload_n 2, 1) := by decide +kernel
theorem dL_law_470 : decode cL_law 470 = .ok (.aload_n 0, 1) := by decide +kernel
theorem dL_law_471 : decode cL_law 471 = .ok (.iload 4, 2) := by decide +kernel
theorem dL_law_473 : decode cL_law 473 = .ok (.iconst 1, 1) := by decide +kernel
theorem dL_law_474 : decode cL_law 474 = .ok (.iadd, 1) := by decide +kernel
theorem dL_law_475 : decode cL_law 475 = .ok (.iaload, 1) := by decide +kernel
theorem dL_law_476 : decode cL_law 476 = .ok (.invokevirtual 71, 3) := by decide +kernel
theorem dL_law_479 : decode cL_law 479 = .ok (.if_icmp .eq 282, 3) := by decide +kernel
theorem dL_law_482 : decode cL_law 482 = .ok (.iconst 0, 1) := by decide +kernel
theorem dL_law_483 : decode cL_law 483 = .ok (.ireturn, 1) := by decide +kernel
theorem dL_law_484 : decode cL_law 484 = .ok (.aload_n 1, 1) := by decide +kernel
theorem dL_law_485 : decode cL_law 485 = .ok (.aload_n 0, 1) := by decide +kernel
theorem dL_law_486 : decode cL_law 486 = .ok (.iload 4, 2) := by decide +kernel
theorem dL_law_488 : decode cL_law 488 = .ok (.iconst 1, 1) := by decide +kernel
theorem dL_law_489 : decode cL_law 489 = .ok (.iadd, 1) := by decide +kernel
theorem dL_law_490 : decode cL_law 490 = .ok (.iaload, 1) := by decide +kernel
theorem dL_law_491 : decode cL_law 491 = .ok (.aload_n 0, 1) := by decide +kernel
theorem dL_law_492 : decode cL_law 492 = .ok (.iload 4, 2) := by decide +kernel
theorem dL_law_494 : decode cL_law 494 = .ok (.iconst 2, 1) := by decide +kernel
theorem dL_law_495 : decode cL_law 495 = .ok (.iadd, 1) := by decide +kernel
theorem dL_law_496 : decode cL_law 496 = .ok (.iaload, 1) := by decide +kernel
theorem dL_law_497 : decode cL_law 497 = .ok (.aload_n 0, 1) := by decide +kernel
theorem dL_law_498 : decode cL_law 498 = .ok (.iload 4, 2) := by decide +kernel
theorem dL_law_500 : decode cL_law 500 = .ok (.iconst 3, 1) := by decide +kernel
theorem dL_law_501 : decode cL_law 501 = .ok (.iadd, 1) := by decide +kernel
theorem dL_law_502 : decode cL_law 502 = .ok (.iaload, 1) := by decide +kernel
theorem dL_law_503 : decode cL_law 503 = .ok (.invokevirtual 72, 3) := by decide +kernel
theorem dL_law_506 : decode cL_law 506 = .ok (.aload_n 2, 1) := by decide +kernel
theorem dL_law_507 : decode cL_law 507 = .ok (.aload_n 0, 1) := by decide +kernel
theorem dL_law_508 : decode cL_law 508 = .ok (.iload 4, 2) := by decide +kernel
theorem dL_law_510 : decode cL_law 510 = .ok (.iconst 1, 1) := by decide +kernel
theorem dL_law_511 : decode cL_law 511 = .ok (.iadd, 1) := by decide +kernel
theorem dL_law_512 : decode cL_law 512 = .ok (.iaload, 1) := by decide +kernel
theorem dL_law_513 : decode cL_law 513 = .ok (.aload_n 0, 1) := by decide +kernel
theorem dL_law_514 : decode cL_law 514 = .ok (.iload 4, 2) := by decide +kernel
theorem dL_law_516 : decode cL_law 516 = .ok (.iconst 2, 1) := by decide +kernel
theorem dL_law_517 : decode cL_law 517 = .ok (.iadd, 1) := by decide +kernel
theorem dL_law_518 : decode cL_law 518 = .ok (.iaload, 1) := by decide +kernel
theorem dL_law_519 : decode cL_law 519 = .ok (.aload_n 0, 1) := by decide +kernel
theorem dL_law_520 : decode cL_law 520 = .ok (.iload 4, 2) := by decide +kernel
theorem dL_law_522 : decode cL_law 522 = .ok (.iconst 3, 1) := by decide +kernel
theorem dL_law_523 : decode cL_law 523 = .ok (.iadd, 1) := by decide +kernel
theorem dL_law_524 : decode cL_law 524 = .ok (.iaload, 1) := by decide +kernel
theorem dL_law_525 : decode cL_law 525 = .ok (.invokevirtual 75, 3) := by decide +kernel
theorem dL_law_528 : decode cL_law 528 = .ok (.if_icmp .eq 233, 3) := by decide +kernel
theorem dL_law_531 : decode cL_law 531 = .ok (.iconst 0, 1) := by decide +kernel
theorem dL_law_532 : decode cL_law 532 = .ok (.ireturn, 1) := by decide +kernel
theorem dL_law_533 : decode cL_law 533 = .ok (.aload_n 1, 1) := by decide +kernel
theorem dL_law_534 : decode cL_law 534 = .ok (.aload_n 0, 1) := by decide +kernel
theorem dL_law_535 : decode cL_law 535 = .ok (.iload 4, 2) := by decide +kernel
theorem dL_law_537 : decode cL_law 537 = .ok (.iconst 1, 1) := by decide +kernel
theorem dL_law_538 : decode cL_law 538 = .ok (.iadd, 1) := by decide +kernel
theorem dL_law_539 : decode cL_law 539 = .ok (.iaload, 1) := by decide +kernel
theorem dL_law_540 : decode cL_law 540 = .ok (.invokevirtual 76, 3) := by decide +kernel
theorem dL_law_543 : decode cL_law 543 = .ok (.aload_n 2, 1) := by decide +kernel
theorem dL_law_544 : decode cL_law 544 = .ok (.aload_n 0, 1) := by decide +kernel
theorem dL_law_545 : decode cL_law 545 = .ok (.iload 4, 2) := by decide +kernel
theorem dL_law_547 : decode cL_law 547 = .ok (.iconst 1, 1) := by decide +kernel
theorem dL_law_548 : decode cL_law 548 = .ok (.iadd, 1) := by decide +kernel
theorem dL_law_549 : decode cL_law 549 = .ok (.iaload, 1) := by decide +kernel
theorem dL_law_550 : decode cL_law 550 = .ok (.invokevirtual 79, 3) := by decide +kernel
theorem dL_law_553 : decode cL_law 553 = .ok (.if_icmp .eq 208, 3) := by decide +kernel
theorem dL_law_556 : decode cL_law 556 = .ok (.iconst 0, 1) := by decide +kernel
theorem dL_law_557 : decode cL_law 557 = .ok (.ireturn, 1) := by decide +kernel
theorem dL_law_558 : decode cL_law 558 = .ok (.aload_n 1, 1) := by decide +kernel
theorem dL_law_559 : decode cL_law 559 = .ok (.aload_n 0, 1) := by decide +kernel
theorem dL_law_560 : decode cL_law 560 = .ok (.iload 4, 2) := by decide +kernel
theorem dL_law_562 : decode cL_law 562 = .ok (.iconst 1, 1) := by decide +kernel
theorem dL_law_563 : decode cL_law 563 = .ok (.iadd, 1) := by decide +kernel
theorem dL_law_564 : decode cL_law 564 = .ok (.iaload, 1) := by decide +kernel
theorem dL_law_565 : decode cL_law 565 = .ok (.aload_n 0, 1) := by decide +kernel
theorem dL_law_566 : decode cL_law 566 = .ok (.iload 4, 2) := by decide +kernel
theorem dL_law_568 : decode cL_law 568 = .ok (.iconst 2, 1) := by decide +kernel
theorem dL_law_569 : decode cL_law 569 = .ok (.iadd, 1) := by decide +kernel
theorem dL_law_570 : decode cL_law 570 = .ok (.iaload, 1) := by decide +kernel
theorem dL_law_571 : decode cL_law 571 = .ok (.invokevirtual 80, 3) := by decide +kernel
theorem dL_law_574 : decode cL_law 574 = .ok (.aload_n 2, 1) := by decide +kernel
theorem dL_law_575 : decode cL_law 575 = .ok (.aload_n 0, 1) := by decide +kernel
theorem dL_law_576 : decode cL_law 576 = .ok (.iload 4, 2) := by decide +kernel
theorem dL_law_578 : decode cL_law 578 = .ok (.iconst 1, 1) := by decide +kernel
theorem dL_law_579 : decode cL_law 579 = .ok (.iadd, 1) := by decide +kernel
theorem dL_law_580 : decode cL_law 580 = .ok (.iaload, 1) := by decide +kernel
theorem dL_law_581 : decode cL_law 581 = .ok (.aload_n 0, 1) := by decide +kernel
theorem dL_law_582 : decode cL_law 582 = .ok (.iload 4, 2) := by decide +kernel
theorem dL_law_584 : decode cL_law 584 = .ok (.iconst 2, 1) := by decide +kernel
theorem dL_law_585 : decode cL_law 585 = .ok (.iadd, 1) := by decide +kernel
theorem dL_law_586 : decode cL_law 586 = .ok (.iaload, 1) := by decide +kernel
theorem dL_law_587 : decode cL_law 587 = .ok (.invokevirtual 84, 3) := by decide +kernel
theorem dL_law_590 : decode cL_law 590 = .ok (.if_icmp .eq 171, 3) := by decide +kernel
theorem dL_law_593 : decode cL_law 593 = .ok (.iconst 0, 1) := by decide +kernel
theorem dL_law_594 : decode cL_law 594 = .ok (.ireturn, 1) := by decide +kernel
theorem dL_law_595 : decode cL_law 595 = .ok (.aload_n 1, 1) := by decide +kernel
theorem dL_law_596 : decode cL_law 596 = .ok (.aload_n 0, 1) := by decide +kernel
theorem dL_law_597 : decode cL_law 597 = .ok (.iload 4, 2) := by decide +kernel
theorem dL_law_599 : decode cL_law 599 = .ok (.iconst 1, 1) := by decide +kernel
end
section
theorem dL_law_600 : decode cL_law 600 = .ok (.iadd, 1) := by decide +kernel
theorem dL_law_601 : decode cL_law 601 = .ok (.iaload, 1) := by decide +kernel
theorem dL_law_602 : decode cL_law 602 = .ok (.invokevirtual 85, 3) := by decide +kernel
theorem dL_law_605 : decode cL_law 605 = .ok (.aload_n 2, 1) := by decide +kernel
theorem dL_law_606 : decode cL_law 606 = .ok (.aload_n 0, 1) := by decide +kernel
theorem dL_law_607 : decode cL_law 607 = .ok (.iload 4, 2) := by decide +kernel
theorem dL_law_609 : decode cL_law 609 = .ok (.iconst 1, 1) := by decide +kernel
theorem dL_law_610 : decode cL_law 610 = .ok (.iadd, 1) := by decide +kernel
theorem dL_law_611 : decode cL_law 611 = .ok (.iaload, 1) := by decide +kernel
theorem dL_law_612 : decode cL_law 612 = .ok (.invokevirtual 88, 3) := by decide +kernel
theorem dL_law_615 : decode cL_law 615 = .ok (.if_icmp .eq 146, 3) := by decide +kernel
theorem dL_law_618 : decode cL_law 618 = .ok (.iconst 0, 1) := by decide +kernel
theorem dL_law_619 : decode cL_law 619 = .ok (.ireturn, 1) := by decide +kernel
theorem dL_law_620 : decode cL_law 620 = .ok (.aload_n 1, 1) := by decide +kernel
theorem dL_law_621 : decode cL_law 621 = .ok (.aload_n 0, 1) := by decide +kernel
theorem dL_law_622 : decode cL_law 622 = .ok (.iload 4, 2) := by decide +kernel
theorem dL_law_624 : decode cL_law 624 = .ok (.iconst 1, 1) := by decide +kernel
theorem dL_law_625 : decode cL_law 625 = .ok (.iadd, 1) := by decide +kernel
theorem dL_law_626 : decode cL_law 626 = .ok (.iaload, 1) := by decide +kernel
theorem dL_law_627 : decode cL_law 627 = .ok (.aload_n 0, 1) := by decide +kernel
theorem dL_law_628 : decode cL_law 628 = .ok (.iload 4, 2) := by decide +kernel
theorem dL_law_630 : decode cL_law 630 = .ok (.iconst 2, 1) := by decide +kernel
theorem dL_law_631 : decode cL_law 631 = .ok (.iadd, 1) := by decide +kernel
theorem dL_law_632 : decode cL_law 632 = .ok (.iaload, 1) := by decide +kernel
theorem dL_law_633 : decode cL_law 633 = .ok (.invokevirtual 89, 3) := by decide +kernel
theorem dL_law_636 : decode cL_law 636 = .ok (.aload_n 2, 1) := by decide +kernel
theorem dL_law_637 : decode cL_law 637 = .ok (.aload_n 0, 1) := by decide +kernel
theorem dL_law_638 : decode cL_law 638 = .ok (.iload 4, 2) := by decide +kernel
theorem dL_law_640 : decode cL_law 640 = .ok (.iconst 1, 1) := by decide +kernel
theorem dL_law_641 : decode cL_law 641 = .ok (.iadd, 1) := by decide +kernel
theorem dL_law_642 : decode cL_law 642 = .ok (.iaload, 1) := by decide +kernel
theorem dL_law_643 : decode cL_law 643 = .ok (.aload_n 0, 1) := by decide +kernel
theorem dL_law_644 : decode cL_law 644 = .ok (.iload 4, 2) := by decide +kernel
theorem dL_law_646 : decode cL_law 646 = .ok (.iconst 2, 1) := by decide +kernel
theorem dL_law_647 : decode cL_law 647 = .ok (.iadd, 1) := by decide +kernel
theorem dL_law_648 : decode cL_law 648 = .ok (.iaload, 1) := by decide +kernel
theorem dL_law_649 : decode cL_law 649 = .ok (.invokevirtual 92, 3) := by decide +kernel
theorem dL_law_652 : decode cL_law 652 = .ok (.if_icmp .eq 109, 3) := by decide +kernel
theorem dL_law_655 : decode cL_law 655 = .ok (.iconst 0, 1) := by decide +kernel
theorem dL_law_656 : decode cL_law 656 = .ok (.ireturn, 1) := by decide +kernel
theorem dL_law_657 : decode cL_law 657 = .ok (.aload_n 1, 1) := by decide +kernel
theorem dL_law_658 : decode cL_law 658 = .ok (.aload_n 0, 1) := by decide +kernel
theorem dL_law_659 : decode cL_law 659 = .ok (.iload 4, 2) := by decide +kernel
theorem dL_law_661 : decode cL_law 661 = .ok (.iconst 1, 1) := by decide +kernel
theorem dL_law_662 : decode cL_law 662 = .ok (.iadd, 1) := by decide +kernel
theorem dL_law_663 : decode cL_law 663 = .ok (.iaload, 1) := by decide +kernel
theorem dL_law_664 : decode cL_law 664 = .ok (.aload_n 0, 1) := by decide +kernel
theorem dL_law_665 : decode cL_law 665 = .ok (.iload 4, 2) := by decide +kernel
theorem dL_law_667 : decode cL_law 667 = .ok (.iconst 2, 1) := by decide +kernel
theorem dL_law_668 : decode cL_law 668 = .ok (.iadd, 1) := by decide +kernel
theorem dL_law_669 : decode cL_law 669 = .ok (.iaload, 1) := by decide +kernel
theorem dL_law_670 : decode cL_law 670 = .ok (.aload_n 0, 1) := by decide +kernel
theorem dL_law_671 : decode cL_law 671 = .ok (.iload 4, 2) := by decide +kernel
theorem dL_law_673 : decode cL_law 673 = .ok (.iconst 3, 1) := by decide +kernel
theorem dL_law_674 : decode cL_law 674 = .ok (.iadd, 1) := by decide +kernel
theorem dL_law_675 : decode cL_law 675 = .ok (.iaload, 1) := by decide +kernel
theorem dL_law_676 : decode cL_law 676 = .ok (.aload_n 3, 1) := by decide +kernel
theorem dL_law_677 : decode cL_law 677 = .ok (.invokestatic 93, 3) := by decide +kernel
theorem dL_law_680 : decode cL_law 680 = .ok (.istore 5, 2) := by decide +kernel
theorem dL_law_682 : decode cL_law 682 = .ok (.aload_n 2, 1) := by decide +kernel
theorem dL_law_683 : decode cL_law 683 = .ok (.aload_n 0, 1) := by decide +kernel
theorem dL_law_684 : decode cL_law 684 = .ok (.iload 4, 2) := by decide +kernel
theorem dL_law_686 : decode cL_law 686 = .ok (.iconst 1, 1) := by decide +kernel
theorem dL_law_687 : decode cL_law 687 = .ok (.iadd, 1) := by decide +kernel
theorem dL_law_688 : decode cL_law 688 = .ok (.iaload, 1) := by decide +kernel
theorem dL_law_689 : decode cL_law 689 = .ok (.aload_n 0, 1) := by decide +kernel
theorem dL_law_690 : decode cL_law 690 = .ok (.iload 4, 2) := by decide +kernel
theorem dL_law_692 : decode cL_law 692 = .ok (.iconst 2, 1) := by decide +kernel
theorem dL_law_693 : decode cL_law 693 = .ok (.iadd, 1) := by decide +kernel
theorem dL_law_694 : decode cL_law 694 = .ok (.iaload, 1) := by decide +kernel
theorem dL_law_695 : decode cL_law 695 = .ok (.aload_n 0, 1) := by decide +kernel
theorem dL_law_696 : decode cL_law 696 = .ok (.iload 4, 2) := by decide +kernel
theorem dL_law_698 : decode cL_law 698 = .ok (.iconst 3, 1) := by decide +kernel
theorem dL_law_699 : decode cL_law 699 = .ok (.iadd, 1) := by decide +kernel
theorem dL_law_700 : decode cL_law 700 = .ok (.iaload, 1) := by decide +kernel
theorem dL_law_701 : decode cL_law 701 = .ok (.invokevirtual 98, 3) := by decide +kernel
theorem dL_law_704 : decode cL_law 704 = .ok (.lstore 6, 2) := by decide +kernel
theorem dL_law_706 : decode cL_law 706 = .ok (.aload_n 2, 1) := by decide +kernel
theorem dL_law_707 : decode cL_law 707 = .ok (.invokevirtual 99, 3) := by decide +kernel
theorem dL_law_710 : decode cL_law 710 = .ok (.iload 5, 2) := by decide +kernel
theorem dL_law_712 : decode cL_law 712 = .ok (.if_icmp .eq 5, 3) := by decide +kernel
theorem dL_law_715 : decode cL_law 715 = .ok (.iconst 0, 1) := by decide +kernel
theorem dL_law_716 : decode cL_law 716 = .ok (.ireturn, 1) := by decide +kernel
theorem dL_law_717 : decode cL_law 717 = .ok (.iload 5, 2) := by decide +kernel
theorem dL_law_719 : decode cL_law 719 = .ok (.ifCond .ne 14, 3) := by decide +kernel
theorem dL_law_722 : decode cL_law 722 = .ok (.aload_n 3, 1) := by decide +kernel
theorem dL_law_723 : decode cL_law 723 = .ok (.iconst 0, 1) := by decide +kernel
theorem dL_law_724 : decode cL_law 724 = .ok (.laload, 1) := by decide +kernel
theorem dL_law_725 : decode cL_law 725 = .ok (.lload 6, 2) := by decide +kernel
theorem dL_law_727 : decode cL_law 727 = .ok (.lcmp, 1) := by decide +kernel
theorem dL_law_728 : decode cL_law 728 = .ok (.ifCond .eq 5, 3) := by decide +kernel
theorem dL_law_731 : decode cL_law 731 = .ok (.iconst 0, 1) := by decide +kernel
theorem dL_law_732 : decode cL_law 732 = .ok (.ireturn, 1) := by decide +kernel
theorem dL_law_733 : decode cL_law 733 = .ok (.goto 28, 3) := by decide +kernel
theorem dL_law_736 : decode cL_law 736 = .ok (.aload_n 1, 1) := by decide +kernel
theorem dL_law_737 : decode cL_law 737 = .ok (.aload_n 0, 1) := by decide +kernel
theorem dL_law_738 : decode cL_law 738 = .ok (.iload 4, 2) := by decide +kernel
theorem dL_law_740 : decode cL_law 740 = .ok (.iconst 1, 1) := by decide +kernel
theorem dL_law_741 : decode cL_law 741 = .ok (.iadd, 1) := by decide +kernel
theorem dL_law_742 : decode cL_law 742 = .ok (.iaload, 1) := by decide +kernel
theorem dL_law_743 : decode cL_law 743 = .ok (.invokevirtual 102, 3) := by decide +kernel
theorem dL_law_746 : decode cL_law 746 = .ok (.aload_n 2, 1) := by decide +kernel
theorem dL_law_747 : decode cL_law 747 = .ok (.aload_n 0, 1) := by decide +kernel
theorem dL_law_748 : decode cL_law 748 = .ok (.iload 4, 2) := by decide +kernel
theorem dL_law_750 : decode cL_law 750 = .ok (.iconst 1, 1) := by decide +kernel
theorem dL_law_751 : decode cL_law 751 = .ok (.iadd, 1) := by decide +kernel
theorem dL_law_752 : decode cL_law 752 = .ok (.iaload, 1) := by decide +kernel
theorem dL_law_753 : decode cL_law 753 = .ok (.invokevirtual 105, 3) := by decide +kernel
theorem dL_law_756 : decode cL_law 756 = .ok (.if_icmp .eq 5, 3) := by decide +kernel
theorem dL_law_759 : decode cL_law 759 = .ok (.iconst 0, 1) := by decide +kernel
theorem dL_law_760 : decode cL_law 760 = .ok (.ireturn, 1) := by decide +kernel
theorem dL_law_761 : decode cL_law 761 = .ok (.iinc 4 4, 3) := by decide +kernel
theorem dL_law_764 : decode cL_law 764 = .ok (.goto (-741), 3) := by decide +kernel
theorem dL_law_767 : decode cL_law 767 = .ok (.iconst 1, 1) := by decide +kernel
theorem dL_law_768 : decode cL_law 768 = .ok (.ireturn, 1) := by decide +kernel
end
