/** The edges that promises 1 to 7 name: the least and the greatest that is taken, the ones next to them, empty, full. */
public final class SettingsEdgesTest {
    private static final Due due = new Due("SettingsEdgesTest");
    private static final int NONE = ChordGrammars.NONE;
    private static final int MIN = Integer.MIN_VALUE;
    private static final int MAX = Integer.MAX_VALUE;
    private static final int C = Due.set(0, 4, 7);
    private static final String BLANKS = "        ";

    public static void main(String[] args) {
        newObjectIsInCMajor();
        newObjectHasNoSlots();
        newObjectHasNoGrammar();
        newObjectHasAnEmptyDraft();
        newObjectHasNothingListed();
        newObjectSharesNothing();
        leastTonic();
        greatestTonic();
        tonicThatIsNoClass();
        refusedKeyKeepsMode();
        leastAndGreatestWhich();
        whichThatIsNone();
        leastAndGreatestCost();
        costBeyond();
        leastAndGreatestN();
        nBeyond();
        lowestOctetsAlone();
        octetsOfAllValues();
        the800thOctet();
        octetsBehindThe800th();
        refusedOctetsDoNotComeInPart();
        draftIsFreeAgainBehindGrammar();
        emptyDraftIsNoGrammar();
        fullDraftIsAGrammar();
        draftIsEmptyThen();
        grammarStaysAtAFault();
        grammarLeavesTheListed();
        leastAndGreatestSet();
        setBeyond();
        everyBassInTheSet();
        bassNone();
        bassNotInTheSet();
        bassBeyond();
        leastAndGreatestMelody();
        melodyNone();
        melodyBeyond();
        the24thSlot();
        theSlotBehindThe24th();
        slotsAreFreeAgainBehindClear();
        clearWithoutSlots();
        clearOfOne();
        clearOfAll();
        clearLeavesTheRest();
        due.end();
    }

    private static ChordGrammars with(String text) {
        ChordGrammars x = new ChordGrammars();
        due.yes("5: '" + text + "'", Due.grammar(x, text) > 0);
        return x;
    }

    /** The root of a degree, found by a parse: so the key itself is seen. */
    private static int rootOf(ChordGrammars x, int degree) {
        Due.grammar(x, "A=" + degree + "M;");
        x.clear();
        x.slot(4095, NONE, NONE);
        due.same("10: parse()", x.parse(), 1);
        return x.chord(0, 0);
    }

    private static void newObjectIsInCMajor() {
        int[] roots = {0, 2, 4, 5, 7, 9, 11};
        for (int degree = 1; degree <= 7; degree++) {
            due.same("1: degree " + degree, rootOf(new ChordGrammars(), degree), roots[degree - 1]);
        }
    }

    private static void newObjectHasNoSlots() {
        ChordGrammars x = with("A=1;");
        due.same("1: told(0)", x.told(0), 0);
        due.same("1: fit", x.fit(0, 0, 0), NONE);
        due.same("1: best", x.best(0), NONE);
        due.same("1: parse()", x.parse(), NONE);
        due.same("1: clear()", x.clear(), 0);
    }

    private static void newObjectHasNoGrammar() {
        ChordGrammars x = new ChordGrammars();
        due.same("1: told(1)", x.told(1), 0);
        due.same("6: slot", x.slot(C, 0, 60), 0);
        due.same("1: parse()", x.parse(), NONE);
    }

    private static void newObjectHasAnEmptyDraft() {
        ChordGrammars x = new ChordGrammars();
        due.same("1: told(2)", x.told(2), 0);
        due.same("1: grammar()", x.grammar(), -2);
        due.same("1: the first octet", x.draft(1, 'A'), 1);
    }

    private static void newObjectHasNothingListed() {
        ChordGrammars x = new ChordGrammars();
        due.same("1: told(3)", x.told(3), 0);
        due.same("1: told(4)", x.told(4), 0);
        due.same("1: readings()", x.readings(), 0);
        due.same("1: price(0)", x.price(0), NONE);
        due.same("1: nodes(0)", x.nodes(0), NONE);
        for (int what = 0; what < 4; what++) {
            due.same("1: node(0, 0, " + what + ")", x.node(0, 0, what), NONE);
        }
        due.same("1: chord(0, 0)", x.chord(0, 0), NONE);
        due.same("1: cadence(0)", x.cadence(0), NONE);
        due.same("1: melody(0, 0)", x.melody(0, 0), NONE);
        due.noCell("1", x, 0, 0, 0);
    }

    private static void newObjectSharesNothing() {
        ChordGrammars other = with("A=1;");
        other.key(5, true);
        other.cost(0, 1000);
        other.slot(C, 0, 60);
        other.parse();
        Due.write(other, "A=");
        newObjectHasNothingListed();
        newObjectHasAnEmptyDraft();
        newObjectHasNoGrammar();
        newObjectIsInCMajor();
        due.same("1: the other one's draft", other.told(2), 2);
        due.same("1: the other one's slots", other.told(0), 1);
        due.same("1: the other one's rules", other.told(1), 1);
    }

    private static void leastTonic() {
        ChordGrammars x = new ChordGrammars();
        due.yes("2: key(5, true)", x.key(5, true));
        due.yes("2: key(0, false)", x.key(0, false));
        due.same("2: its degree 1", rootOf(x, 1), 0);
        due.same("2: its degree 7", rootOf(x, 7), 11);
        due.yes("2: key(0, true)", x.key(0, true));
        due.same("2: its degree 7", rootOf(x, 7), 10);
    }

    private static void greatestTonic() {
        ChordGrammars x = new ChordGrammars();
        due.yes("2: key(11, false)", x.key(11, false));
        due.same("2: its degree 1", rootOf(x, 1), 11);
        due.same("2: its degree 2 wraps", rootOf(x, 2), 1);
        due.same("2: its degree 7 wraps", rootOf(x, 7), 10);
        due.yes("2: key(11, true)", x.key(11, true));
        due.same("2: its degree 7 wraps", rootOf(x, 7), 9);
    }

    private static void tonicThatIsNoClass() {
        for (int tonic : new int[] {-1, 12, -12, 24, MIN, MAX}) {
            ChordGrammars x = new ChordGrammars();
            x.key(3, false);
            due.no("2: key(" + tonic + ", false)", x.key(tonic, false));
            due.same("2: degree 1 stays", rootOf(x, 1), 3);
            due.same("2: degree 3 stays", rootOf(x, 3), 7);
        }
    }

    private static void refusedKeyKeepsMode() {
        ChordGrammars x = new ChordGrammars();
        due.no("2: key(12, true)", x.key(12, true));
        due.same("2: still major", rootOf(x, 3), 4);
        x.key(0, true);
        due.no("2: key(-1, false)", x.key(-1, false));
        due.same("2: still minor", rootOf(x, 3), 3);
    }

    /** Slots whose costs, of C major, are: one stranger, one missing, a bass that is not the root, one that is none. */
    private static ChordGrammars costSlots() {
        ChordGrammars x = new ChordGrammars();
        x.slot(Due.set(0, 4, 7, 9), NONE, NONE);
        x.slot(Due.set(0, 4), NONE, NONE);
        x.slot(C, 7, NONE);
        x.slot(Due.set(0, 4, 7, 9), 9, NONE);
        return x;
    }

    private static void costsAre(String what, ChordGrammars x, int... want) {
        int[] got = {x.fit(0, 0, 0), x.fit(1, 0, 0), x.fit(2, 0, 0), x.fit(3, 0, 0) - x.fit(0, 0, 0)};
        for (int which = 0; which < 4; which++) {
            due.same("3: COST " + which + " " + what, got[which], want[which]);
        }
    }

    private static void leastAndGreatestWhich() {
        int[] atFirst = {4, 3, 1, 5};
        for (int which = 0; which < 4; which++) {
            ChordGrammars x = costSlots();
            costsAre("at first", x, 4, 3, 1, 5);
            due.yes("3: cost(" + which + ", 77)", x.cost(which, 77));
            int[] want = atFirst.clone();
            want[which] = 77;
            costsAre("when " + which + " alone is changed", x, want);
        }
    }

    private static void whichThatIsNone() {
        for (int which : new int[] {-1, 4, MIN, MAX}) {
            ChordGrammars x = costSlots();
            due.no("3: cost(" + which + ", 77)", x.cost(which, 77));
            costsAre("behind cost(" + which + ", 77)", x, 4, 3, 1, 5);
        }
    }

    private static void leastAndGreatestCost() {
        for (int v : new int[] {0, 1, 999, 1000}) {
            ChordGrammars x = costSlots();
            for (int which = 0; which < 4; which++) {
                due.yes("3: cost(" + which + ", " + v + ")", x.cost(which, v));
            }
            costsAre("of " + v, x, v, v, v, v);
        }
    }

    private static void costBeyond() {
        for (int v : new int[] {-1, 1001, MIN, MAX}) {
            ChordGrammars x = costSlots();
            for (int which = 0; which < 4; which++) {
                due.no("3: cost(" + which + ", " + v + ")", x.cost(which, v));
            }
            costsAre("behind " + v, x, 4, 3, 1, 5);
        }
    }

    private static void leastAndGreatestN() {
        for (int n = 1; n <= 8; n++) {
            ChordGrammars x = new ChordGrammars();
            due.same("4: draft(" + n + ", ..)", x.draft(n, Due.octets(BLANKS)), n);
            due.same("4: told(2)", x.told(2), n);
            due.same("4: and behind it", x.draft(n, Due.octets(BLANKS)), 2 * n);
            due.same("4: their end", x.grammar(), -2 - 2 * n);
        }
    }

    private static void nBeyond() {
        for (int n : new int[] {0, 9, -1, -8, MIN, MAX}) {
            ChordGrammars x = new ChordGrammars();
            due.same("4: draft(" + n + ", ..)", x.draft(n, Due.octets("A=1;")), NONE);
            due.same("4: still empty", x.told(2), 0);
            Due.write(x, "A=1;A=2;");
            due.same("4: draft(" + n + ", ..)", x.draft(n, Due.octets("A=1;")), NONE);
            due.same("4: still 8", x.told(2), 8);
            due.same("4: still two rules", x.grammar(), 2);
        }
    }

    private static void lowestOctetsAlone() {
        String rule = "A=1 1:5;";
        for (int n = 1; n <= 8; n++) {
            ChordGrammars x = new ChordGrammars();
            long above = n == 8 ? 0 : -1L << 8 * n;
            due.same("4: the n lowest", x.draft(n, Due.octets(rule.substring(0, n)) | above), n);
            due.same("4: the rest", Due.write(x, rule.substring(n)), 8);
            due.same("4: the n lowest are read", x.grammar(), 1);
        }
    }

    private static void octetsOfAllValues() {
        for (int octet = 0; octet < 256; octet++) {
            ChordGrammars x = new ChordGrammars();
            due.same("4: octet " + octet, x.draft(1, octet), 1);
            Due.write(x, "=1;");
            boolean isName = octet >= 'A' && octet <= 'Z';
            due.same("4: octet " + octet + " first", x.grammar(), isName ? 1 : octet == ' ' ? -3 : -2);
        }
        ChordGrammars x = new ChordGrammars();
        due.same("4: the highest octet of a negative long", x.draft(8, Due.octets("A=1;   \u00ff")), 8);
        due.same("4: it is 255", x.grammar(), -9);
    }

    private static ChordGrammars drafted(int size) {
        ChordGrammars x = new ChordGrammars();
        due.same("4: a draft of " + size, Due.write(x, "A=1;" + " ".repeat(size - 4)), size);
        return x;
    }

    private static void the800thOctet() {
        for (int n = 1; n <= 8; n++) {
            ChordGrammars x = drafted(800 - n);
            due.same("4: up to 800 by " + n, x.draft(n, Due.octets(BLANKS)), 800);
            due.same("4: told(2)", x.told(2), 800);
            due.same("4: all are read", x.grammar(), 1);
            x = drafted(800 - n);
            x.draft(n, Due.octets((BLANKS + "?").substring(9 - n)));
            due.same("4: the 800th is the last one read", x.grammar(), -2 - 799);
        }
    }

    private static void octetsBehindThe800th() {
        for (int n = 1; n <= 8; n++) {
            ChordGrammars x = drafted(801 - n);
            due.same("4: up to 801 by " + n, x.draft(n, Due.octets(BLANKS)), NONE);
            due.same("4: told(2) stays", x.told(2), 801 - n);
            x = drafted(800);
            due.same("4: " + n + " behind 800", x.draft(n, Due.octets(BLANKS)), NONE);
            due.same("4: told(2) stays", x.told(2), 800);
        }
    }

    private static void refusedOctetsDoNotComeInPart() {
        ChordGrammars x = drafted(796);
        due.same("4: too many", x.draft(5, Due.octets("?????")), NONE);
        due.same("4: four more", x.draft(4, Due.octets("B=2;")), 800);
        due.same("4: too many", x.draft(8, Due.octets("????????")), NONE);
        due.same("4: nothing of the refused ones", x.grammar(), 2);
    }

    private static void draftIsFreeAgainBehindGrammar() {
        ChordGrammars x = drafted(800);
        due.same("5: grammar()", x.grammar(), 1);
        due.same("4: the first again", x.draft(8, Due.octets(BLANKS)), 8);
        due.same("5: only these are read", x.grammar(), -10);
    }

    private static void emptyDraftIsNoGrammar() {
        ChordGrammars x = new ChordGrammars();
        due.same("5: the end of nothing", x.grammar(), -2);
        due.same("5: again", x.grammar(), -2);
        due.same("5: no rules", x.told(1), 0);
    }

    private static void fullDraftIsAGrammar() {
        ChordGrammars x = new ChordGrammars();
        due.same("4: 800 octets", Due.write(x, " ".repeat(796) + "A=7;"), 800);
        due.same("5: the last octet is a rule's", x.grammar(), 1);
        due.same("4: 800 octets", Due.write(x, " ".repeat(797) + "A=7"), 800);
        due.same("5: the greatest place is the size", x.grammar(), -802);
    }

    private static void draftIsEmptyThen() {
        ChordGrammars x = new ChordGrammars();
        Due.write(x, "A=1;");
        due.same("5: well", x.grammar(), 1);
        due.same("5: empty", x.told(2), 0);
        Due.write(x, "A=1");
        due.same("5: a fault", x.grammar(), -5);
        due.same("5: empty behind a fault, too", x.told(2), 0);
        due.same("5: nothing is left of it", Due.grammar(x, ";"), -2);
    }

    private static void grammarStaysAtAFault() {
        String[] faults = {"", "B=2;B", "B=2;B=B;", "B=2;".repeat(61), "?B=2;"};
        for (String fault : faults) {
            ChordGrammars x = with("A=1:6;A=2:7;");
            due.yes("5: a fault", Due.grammar(x, fault) <= -2);
            due.same("5: told(1) stays", x.told(1), 2);
            x.slot(Due.set(2, 5, 9), 2, NONE);
            due.same("5: the grammar stays", x.parse(), 1);
            due.same("5: its second rule", x.node(0, 0, 0), 1);
            due.same("5: that one's cost", x.price(0), 7);
        }
    }

    private static void grammarLeavesTheListed() {
        ChordGrammars x = with("A=1:6;");
        x.slot(C, 0, 60);
        x.parse();
        due.same("5: another", Due.grammar(x, "B=1:7;B=1:8;"), 2);
        due.same("5: what is listed stays", x.told(3), 1);
        due.same("5: its price stays", x.price(0), 6);
        due.same("10: as all is now", x.parse(), 2);
        due.same("12: the new one's", x.price(0), 7);
        due.same("18: A is no more", x.cell(0, 0, 0), 0);
    }

    private static void leastAndGreatestSet() {
        ChordGrammars x = new ChordGrammars();
        due.same("6: set 1", x.slot(1, NONE, NONE), 0);
        due.same("6: set 4095", x.slot(4095, NONE, NONE), 1);
        due.same("6: set 2048", x.slot(2048, NONE, NONE), 2);
        due.same("9: one class", x.best(0), NONE);
        due.same("8: all classes", x.fit(1, 0, 0), 9 * 4);
    }

    private static void setBeyond() {
        for (int set : new int[] {0, 4096, 4097, -1, MIN, MAX}) {
            ChordGrammars x = new ChordGrammars();
            due.same("6: set " + set, x.slot(set, NONE, NONE), NONE);
            due.same("6: set " + set + " with a bass", x.slot(set, 0, 60), NONE);
            due.same("6: no slot", x.told(0), 0);
            due.same("6: no slot", x.best(0), NONE);
        }
    }

    private static void everyBassInTheSet() {
        ChordGrammars x = new ChordGrammars();
        for (int bass = 0; bass < 12; bass++) {
            due.same("6: bass " + bass + " alone", x.slot(1 << bass, bass, NONE), 2 * bass);
            due.same("6: bass " + bass + " of all", x.slot(4095, bass, NONE), 2 * bass + 1);
            due.same("8: it is the root", x.fit(2 * bass + 1, bass, 0), 9 * 4);
            due.same("8: it is the third", x.fit(2 * bass + 1, (bass + 8) % 12, 0), 9 * 4 + 1);
            due.same("8: it is none", x.fit(2 * bass + 1, (bass + 1) % 12, 0), 9 * 4 + 5);
        }
    }

    private static void bassNone() {
        ChordGrammars x = new ChordGrammars();
        due.same("6: no bass", x.slot(4095, NONE, NONE), 0);
        for (int root = 0; root < 12; root++) {
            due.same("8: no cost of a bass", x.fit(0, root, 0), 9 * 4);
        }
    }

    private static void bassNotInTheSet() {
        ChordGrammars x = new ChordGrammars();
        for (int bass = 0; bass < 12; bass++) {
            due.same("6: bass " + bass + " is the one that is not", x.slot(4095 & ~(1 << bass), bass, NONE), NONE);
            due.same("6: the set is the class above", x.slot(1 << (bass + 1) % 12, bass, NONE), NONE);
            due.same("6: the set is the class below", x.slot(1 << (bass + 11) % 12, bass, NONE), NONE);
        }
        due.same("6: no slot", x.told(0), 0);
    }

    private static void bassBeyond() {
        ChordGrammars x = new ChordGrammars();
        for (int bass : new int[] {-2, 12, 31, 32, 33, -32, MIN, MAX}) {
            due.same("6: bass " + bass, x.slot(4095, bass, NONE), NONE);
            due.same("6: bass " + bass, x.slot(1, bass, NONE), NONE);
        }
        due.same("6: no slot", x.told(0), 0);
    }

    private static void leastAndGreatestMelody() {
        ChordGrammars x = with("A=1B;B=1;");
        due.same("6: melody 0", x.slot(C, 0, 0), 0);
        due.same("6: melody 127", x.slot(C, 0, 127), 1);
        due.same("10: parse()", x.parse(), 1);
        due.same("17: 0 is a C", x.melody(0, 0), 0);
        due.same("17: 127 is a G", x.melody(0, 1), 0);
    }

    private static void melodyNone() {
        ChordGrammars x = with("A=1;");
        due.same("6: no melody", x.slot(C, 0, NONE), 0);
        due.same("10: parse()", x.parse(), 1);
        due.same("17: no pitch", x.melody(0, 0), NONE);
    }

    private static void melodyBeyond() {
        ChordGrammars x = new ChordGrammars();
        for (int pitch : new int[] {-2, 128, MIN, MAX}) {
            due.same("6: melody " + pitch, x.slot(C, 0, pitch), NONE);
            due.same("6: melody " + pitch + ", no bass", x.slot(C, NONE, pitch), NONE);
        }
        due.same("6: no slot", x.told(0), 0);
    }

    private static ChordGrammars full() {
        ChordGrammars x = with("A=1A;A=1;");
        for (int k = 0; k < 23; k++) {
            due.same("6: slot " + k, x.slot(C, 0, 60), k);
        }
        return x;
    }

    private static void the24thSlot() {
        ChordGrammars x = full();
        due.same("6: the 24th", x.slot(Due.set(0, 4), 0, 62), 23);
        due.same("6: told(0)", x.told(0), 24);
        due.same("8: the 24th", x.fit(23, 0, 0), 3);
        due.same("9: the 24th", x.best(23), 0);
        due.same("10: parse()", x.parse(), 1);
        due.same("19: told(4)", x.told(4), 24);
        due.same("12: its cost counts", x.price(0), 3);
        due.same("15: the 24th", x.chord(0, 23), 0);
        due.same("17: the 24th", x.melody(0, 23), 7);
    }

    private static void theSlotBehindThe24th() {
        ChordGrammars x = full();
        x.slot(Due.set(0, 4), 0, 62);
        due.same("6: the 25th", x.slot(C, 0, 60), NONE);
        due.same("6: told(0)", x.told(0), 24);
        due.same("8: the 24th stays", x.fit(23, 0, 0), 3);
        due.same("8: the 25th", x.fit(24, 0, 0), NONE);
        due.same("9: the 25th", x.best(24), NONE);
        due.same("8: the first stays", x.fit(0, 0, 0), 0);
    }

    private static void slotsAreFreeAgainBehindClear() {
        ChordGrammars x = full();
        x.slot(C, 0, 60);
        due.same("7: clear()", x.clear(), 24);
        for (int k = 0; k < 24; k++) {
            due.same("6: slot " + k + " again", x.slot(Due.set(7, 11, 2), NONE, NONE), k);
        }
        due.same("6: the 25th again", x.slot(C, 0, 60), NONE);
        due.same("9: the new ones", x.best(0), 7);
        due.same("9: the new ones", x.best(23), 7);
    }

    private static void clearWithoutSlots() {
        ChordGrammars x = new ChordGrammars();
        due.same("7: none", x.clear(), 0);
        due.same("7: none again", x.clear(), 0);
        due.same("7: told(0)", x.told(0), 0);
    }

    private static void clearOfOne() {
        ChordGrammars x = new ChordGrammars();
        x.slot(C, 0, 60);
        due.same("7: one", x.clear(), 1);
        due.same("7: told(0)", x.told(0), 0);
        due.same("7: fit", x.fit(0, 0, 0), NONE);
        due.same("7: best", x.best(0), NONE);
        due.same("7: none again", x.clear(), 0);
    }

    private static void clearOfAll() {
        ChordGrammars x = full();
        x.slot(C, 0, 60);
        due.same("7: 24", x.clear(), 24);
        due.same("7: told(0)", x.told(0), 0);
        due.same("7: fit", x.fit(23, 0, 0), NONE);
        due.same("7: parse()", x.parse(), NONE);
    }

    private static void clearLeavesTheRest() {
        ChordGrammars x = with("A=1:5;");
        x.key(7, false);
        x.cost(1, 50);
        x.slot(Due.set(7, 11), 7, 62);
        x.parse();
        Due.write(x, "A=");
        due.same("7: clear()", x.clear(), 1);
        due.same("7: the listed stay", x.price(0), 55);
        due.same("7: the parsed slots stay", x.told(4), 1);
        due.same("7: the draft stays", x.told(2), 2);
        due.same("7: the grammar stays", x.told(1), 1);
        x.slot(Due.set(7, 11), 7, 62);
        due.same("10: parse()", x.parse(), 1);
        due.same("7: the key stays", x.chord(0, 0), 7);
        due.same("7: the costs stay", x.price(0), 55);
    }
}
