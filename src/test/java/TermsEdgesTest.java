import java.util.Arrays;
import java.util.List;
import java.util.function.Consumer;

/** The edges that the sentences under "Terms" name. */
public final class TermsEdgesTest {
    private static final Due due = new Due("TermsEdgesTest");
    private static final int NONE = ChordGrammars.NONE;
    private static final int C = Due.set(0, 4, 7);
    private static final int G7 = Due.set(7, 11, 2, 5);

    public static void main(String[] args) {
        pitchesModulo12();
        degreesAboveEachTonic();
        chordsRoundTheTop();
        fitNeedsTwoClasses();
        eachStrangerAndEachMissingCosts();
        bassCosts();
        costsTogether();
        grammarOf800Octets();
        oneRuleAtLeast();
        leftIsALetter();
        itemIsALetterOrAFigure();
        kindLetters();
        oneOrTwoItems();
        costOfOneToThreeFigures();
        blanksAnywhere();
        blanksNotBetween();
        noOtherBlanks();
        the60thRule();
        the61stRule();
        faultAtTheFirstOctet();
        faultAtTheEnd();
        faultBeforeRing();
        ringOfOne();
        ringOfMany();
        ringNamesTheFirstRuleInIt();
        noRing();
        noRingByAnEarlierText();
        nameOfNoRule();
        symbolReadsOneSlot();
        symbolOfSeveralKinds();
        twoItemsNeedTwoSlots();
        noPartIsEmpty();
        partsAreInTheirOrder();
        costOfAReading();
        firstRulesLeftIsRead();
        allSlotsAreRead();
        lessCostFirst();
        lesserRuleThen();
        shorterFirstPartThen();
        lesserFirstItemThen();
        lesserSecondItemThen();
        thirtyAreListed();
        thirtyOfTwoParts();
        listedAreAsTheyWere();
        due.end();
    }

    private static ChordGrammars made(String text, int... sets) {
        ChordGrammars x = new ChordGrammars();
        due.yes("'" + text + "'", Due.grammar(x, text) > 0);
        for (int set : sets) {
            x.slot(set, NONE, NONE);
        }
        return x;
    }

    private static void is(String what, String text, int want) {
        ChordGrammars x = new ChordGrammars();
        due.same(what + ": '" + text + "'", Due.grammar(x, text), want);
        due.same(what + ": rules of '" + text + "'", x.told(1), Math.max(0, want));
    }

    private static void well(String what, String text) {
        is(what, text, 1);
    }

    private static void fault(String what, String text, int place) {
        is(what, text, -2 - place);
    }

    private static void pitchesModulo12() {
        for (int pitch : new int[] {0, 4, 7, 12, 60, 64, 67, 120, 124, 127}) {
            due.same("CLASSES: " + pitch + " is of C major", melodyAlone(pitch), 0);
        }
        for (int pitch : new int[] {1, 3, 5, 6, 8, 11, 13, 59, 61, 119, 121, 125, 126}) {
            due.same("CLASSES: " + pitch + " is not", melodyAlone(pitch), 7);
        }
    }

    private static int melodyAlone(int pitch) {
        ChordGrammars x = made("A=1M;");
        x.slot(C, 0, pitch);
        due.same("parse()", x.parse(), 1);
        return x.melody(0, 0);
    }

    private static void degreesAboveEachTonic() {
        int[][] scales = {{0, 2, 4, 5, 7, 9, 11}, {0, 2, 3, 5, 7, 8, 10}};
        for (int tonic = 0; tonic < 12; tonic++) {
            for (int mode = 0; mode < 2; mode++) {
                ChordGrammars x = made("A=1M;A=2M:1;A=3M:2;A=4M:3;A=5M:4;A=6M:5;A=7M:6;", 4095);
                x.key(tonic, mode == 1);
                due.same("DEGREES: parse()", x.parse(), 7);
                for (int degree = 1; degree <= 7; degree++) {
                    due.same("DEGREES: " + degree, x.chord(degree - 1, 0), (tonic + scales[mode][degree - 1]) % 12);
                }
            }
        }
    }

    private static void chordsRoundTheTop() {
        String[] classesOfB = {"11 3 6", "11 2 6", "11 2 5", "11 3 7", "11 3 6 9", "11 3 6 10", "11 2 6 9", "11 2 5 9", "11 2 5 8"};
        ChordGrammars x = new ChordGrammars();
        for (int kind = 0; kind < 9; kind++) {
            int set = 0;
            for (String c : classesOfB[kind].split(" ")) {
                set |= 1 << Integer.parseInt(c);
            }
            x.slot(set, NONE, NONE);
            due.same("CHORDS: root 11, kind " + kind, x.fit(kind, 11, kind), 0);
            due.same("CHORDS: root 0, kind 0", x.fit(kind, 0, 0) == 0 ? 1 : 0, 0);
        }
    }

    private static void fitNeedsTwoClasses() {
        ChordGrammars x = new ChordGrammars();
        int[] alone = {0, 4, 7, 10};
        for (int c : alone) {
            x.slot(1 << c | 1 << 1, NONE, NONE);
        }
        x.slot(Due.set(0, 4), NONE, NONE);
        x.slot(Due.set(0, 10), NONE, NONE);
        x.slot(Due.set(7, 10, 1), NONE, NONE);
        for (int slot = 0; slot < 4; slot++) {
            due.same("FIT: one class of C7", x.fit(slot, 0, 4), NONE);
        }
        due.same("FIT: two classes of C7", x.fit(4, 0, 4), 2 * 3);
        due.same("FIT: two classes of C7", x.fit(5, 0, 4), 2 * 3);
        due.same("FIT: two classes of C7 and a stranger", x.fit(6, 0, 4), 2 * 3 + 4);
        due.same("FIT: two of C", x.fit(4, 0, 0), 3);
        due.same("FIT: one of C", x.fit(5, 0, 0), NONE);
        due.same("FIT: none of C", x.fit(4, 1, 0), NONE);
    }

    private static void eachStrangerAndEachMissingCosts() {
        ChordGrammars x = new ChordGrammars();
        int set = C;
        int strangers = 0;
        for (int c : new int[] {1, 2, 3, 5, 6, 8, 9, 10, 11}) {
            due.same("FIT: strangers", x.fit(x.slot(set, NONE, NONE), 0, 0), 4 * strangers);
            set |= 1 << c;
            strangers++;
        }
        due.same("FIT: nine strangers", x.fit(x.slot(set, NONE, NONE), 0, 0), 4 * 9);
        due.same("FIT: none missing of four", x.fit(x.slot(Due.set(0, 4, 7, 10), NONE, NONE), 0, 4), 0);
        due.same("FIT: one missing of four", x.fit(x.slot(Due.set(0, 4, 10), NONE, NONE), 0, 4), 3);
        due.same("FIT: two missing of four", x.fit(x.slot(Due.set(4, 10), NONE, NONE), 0, 4), 6);
    }

    private static void bassCosts() {
        ChordGrammars x = new ChordGrammars();
        int all = Due.set(0, 4, 7, 10, 1);
        int[] wants = {0, 5, NONE, NONE, 1, NONE, NONE, 1, NONE, NONE, 1};
        for (int bass = 0; bass < wants.length; bass++) {
            if (wants[bass] != NONE) {
                due.same("FIT: bass " + bass + " of C7", x.fit(x.slot(all, bass, NONE), 0, 4), 4 + wants[bass]);
            }
        }
        due.same("FIT: no bass", x.fit(x.slot(all, NONE, NONE), 0, 4), 4);
        due.same("FIT: the root, which is missing, is no bass", x.fit(x.slot(Due.set(4, 7), 4, NONE), 0, 0), 3 + 1);
    }

    private static void costsTogether() {
        ChordGrammars x = new ChordGrammars();
        x.slot(4095, 1, NONE);
        x.slot(4095 & ~Due.set(0, 10), 1, NONE);
        for (int which = 0; which < 4; which++) {
            x.cost(which, 1000);
        }
        due.same("COSTS: nine strangers and the bass", x.fit(0, 0, 0), 10000);
        due.same("COSTS: eight strangers, two missing and the bass", x.fit(1, 0, 4), 11000);
        for (int which = 0; which < 4; which++) {
            x.cost(which, 0);
        }
        due.same("COSTS: all 0", x.fit(1, 0, 4), 0);
        due.same("COSTS: all 0 is no fit of one class", x.fit(x.slot(Due.set(0, 1), 0, NONE), 0, 0), NONE);
    }

    private static void grammarOf800Octets() {
        is("800 octets", "A=1:999; B=C7o ; ".repeat(30) + " ".repeat(290), 60);
        is("800 octets", " ".repeat(790) + "A = 1 : 1;", 1);
        fault("800 octets", " ".repeat(790) + "A = 1 : 1 ", 800);
        fault("799 octets", " ".repeat(790) + "A = 1 : 1", 799);
    }

    private static void oneRuleAtLeast() {
        fault("no rule", "", 0);
        fault("no rule", " ", 1);
        fault("no rule", "        ", 8);
        fault("no rule", ";", 0);
        well("one rule", "A=1;");
        well("one rule", " A=1; ");
    }

    private static void leftIsALetter() {
        for (char left : new char[] {'A', 'B', 'M', 'Y', 'Z'}) {
            well("LEFT", left + "=1;");
        }
        for (char left : new char[] {'@', '[', 'a', 'm', 'z', '1', '7', '=', ':', ';', 0, 255, 'A' + 128}) {
            fault("LEFT", left + "=1;", 0);
        }
    }

    private static void itemIsALetterOrAFigure() {
        for (char item : new char[] {'A', 'M', 'Z', '1', '7'}) {
            well("ITEM", "B=" + item + ";");
            well("ITEM", "B=C" + item + ";");
            well("ITEM", "B=1M" + item + ";");
        }
        for (char item : new char[] {'@', '[', '0', '8', '9', 'a', 'm', '=', ':', ';', 0, 255, '1' + 128}) {
            fault("ITEM", "B=" + item + ";", 2);
        }
        for (char item : new char[] {'@', '[', '0', '8', '9', 'a', 'm', '=', 0, 255}) {
            fault("ITEM", "B=C" + item + ";", 3);
        }
    }

    private static void kindLetters() {
        String letters = "Mmdasjnho";
        for (char c = 'a'; c <= 'z'; c++) {
            is("KIND", "A=1" + c + ";", letters.indexOf(c) >= 0 ? 1 : -2 - 3);
            is("KIND", "A=B7" + c + ";", letters.indexOf(c) >= 0 ? 1 : -2 - 4);
        }
        for (int kind = 0; kind < 9; kind++) {
            ChordGrammars x = made("A=2" + letters.charAt(kind) + ";", 4095);
            due.same("KIND: parse()", x.parse(), 1);
            due.same("KIND: " + letters.charAt(kind), x.chord(0, 0), 12 * kind + 2);
        }
        ChordGrammars x = made("A=1M;M=1;", C);
        due.same("KIND: a letter at once is no NAME", x.parse(), 1);
        due.same("KIND: a letter at once is no NAME", x.nodes(0), 2);
        x = made("A=1 M;M=1;", C, C);
        due.same("NAME: behind a blank it is one", x.parse(), 1);
        due.same("NAME: behind a blank it is one", x.nodes(0), 4);
        x = made("A=1MM;M=1;", C, C);
        due.same("NAME: behind a kind's letter it is one", x.parse(), 1);
        due.same("NAME: behind a kind's letter it is one", x.nodes(0), 4);
    }

    private static void oneOrTwoItems() {
        fault("no ITEM", "A=;", 2);
        fault("no ITEM", "A=:1;", 2);
        well("one ITEM", "A=B;");
        well("one ITEM", "A=1;");
        well("two ITEMS", "A=BC;");
        well("two ITEMS", "A=11;");
        well("two ITEMS", "A=B1;");
        well("two ITEMS", "A=1s5s;");
        fault("three ITEMS", "A=BCD;", 4);
        fault("three ITEMS", "A=111;", 4);
        fault("three ITEMS", "A=1s5sB;", 6);
    }

    private static void costOfOneToThreeFigures() {
        String[] texts = {"", ":0", ":9", ":00", ":10", ":99", ":000", ":007", ":100", ":999"};
        int[] costs = {0, 0, 9, 0, 10, 99, 0, 7, 100, 999};
        for (int k = 0; k < texts.length; k++) {
            ChordGrammars x = made("A=1" + texts[k] + ";", C);
            due.same("cost: parse()", x.parse(), 1);
            due.same("cost: '" + texts[k] + "'", x.price(0), costs[k]);
        }
        fault("no figure", "A=1:;", 4);
        fault("no figure", "A=1: ;", 5);
        fault("no figure", "A=1:", 4);
        fault("four figures", "A=1:0000;", 7);
        fault("four figures", "A=1:1000;", 7);
        fault("no figure, but near", "A=1:/;", 4);
        fault("no figure, but behind the last", "A=1:9:;", 5);
        fault("below 0", "A=1:-1;", 4);
        fault("a letter", "A=1:1A;", 5);
    }

    private static void blanksAnywhere() {
        String[] parts = {"A", "=", "1m", "B", ":", "12", ";", "B", "=", "C", ";"};
        for (int at = 0; at <= parts.length; at++) {
            StringBuilder text = new StringBuilder();
            for (int k = 0; k <= parts.length; k++) {
                text.append(k == at ? "   " : "").append(k < parts.length ? parts[k] : "");
            }
            is("blanks", text.toString(), 2);
        }
        is("blanks", " A = 1m B : 12 ; B = C ; ", 2);
        is("blanks", "   A   =   1m   B   :   12   ;   B   =   C   ;   ", 2);
    }

    private static void blanksNotBetween() {
        fault("between a symbol's octets", "A=1 m;", 4);
        fault("between a symbol's octets", "A=B1 o;", 5);
        fault("between a symbol's octets", "A=1  s;", 5);
        fault("between figures", "A=1:1 2;", 6);
        fault("between figures", "A=1:12 3;", 7);
        fault("between figures", "A=1:1   2;", 8);
        well("behind the figures", "A=1:123 ;");
    }

    private static void noOtherBlanks() {
        for (char c : new char[] {0, '\t', '\n', '\r', 31, 33, 127, 160}) {
            fault("no blank", c + "A=1;", 0);
            fault("no blank", "A" + c + "=1;", 1);
            fault("no blank", "A=1" + c + ";", 3);
            fault("no blank", "A=1;" + c, 4);
        }
    }

    private static void the60thRule() {
        is("59 rules", "A=1;".repeat(59), 59);
        is("60 rules", "A=1;".repeat(60), 60);
        is("60 rules and blanks", "A=1;".repeat(60) + "    ", 60);
        ChordGrammars x = made("B=1;".repeat(59) + "B=2:5;", Due.set(2, 5, 9));
        due.same("the 60th rule reads", x.parse(), 1);
        due.same("the 60th rule's number", x.node(0, 0, 0), 59);
        due.same("the 60th rule's cost", x.price(0), 5);
        fault("a fault in the 60th", "A=1;".repeat(59) + "A=0;", 238);
        fault("the 60th ends too early", "A=1;".repeat(59) + "A=1", 239);
        fault("the 60th is a ring", "A=1;".repeat(59) + "B=B;", 236);
    }

    private static void the61stRule() {
        String sixty = "A=1;".repeat(60);
        fault("the 61st", sixty + "A=1;", 240);
        fault("the 61st behind blanks", sixty + "   A=1;", 243);
        fault("the 61st, which is not whole", sixty + "A", 240);
        fault("the 61st, with a fault of its own", sixty + "A=x;", 240);
        fault("many more", "A=1;".repeat(200), 240);
        fault("no rule behind the 60th", sixty + "?", 240);
        fault("no rule behind the 60th", sixty + " ;", 241);
    }

    private static void faultAtTheFirstOctet() {
        fault("the first one", "?=?;", 0);
        fault("not the second one", "A=?;?", 2);
        fault("in the second rule", "A=1;B=?;", 6);
        fault("behind all", "A=1;?", 4);
        fault("two ends", "A=1;;", 4);
        fault("no =", "A1;", 1);
        fault("two =", "A==1;", 2);
        fault("two :", "A=1::1;", 4);
    }

    private static void faultAtTheEnd() {
        String text = "A = 1m B : 12 ";
        for (int size = 0; size <= text.length(); size++) {
            fault("the end", text.substring(0, size), size);
            fault("the end", "B=1;" + text.substring(0, size) + (size == 0 ? "B" : ""), 4 + Math.max(1, size));
        }
    }

    private static void faultBeforeRing() {
        fault("an octet behind a ring", "A=A;?", 4);
        fault("the end behind a ring", "A=A;B=", 6);
        fault("the 61st rule behind a ring", "A=A;".repeat(61), 240);
        fault("a ring of the 60 first", "A=A;".repeat(60), 0);
    }

    private static void ringOfOne() {
        fault("itself", "A=A;", 0);
        fault("itself, Z", "A=1;Z=Z;", 4);
        fault("itself at a cost", " A = A : 5 ;", 1);
        fault("itself though it reads, too", "A=1;A=A;", 4);
    }

    private static void ringOfMany() {
        fault("two", "A=B;B=A;", 0);
        fault("three", "A=B;B=C;C=A;", 0);
        fault("three, in another order", "C=A;A=B;B=C;", 0);
        for (char by = 'A'; by <= 'Z'; by++) {
            if (by != 'D' && by != 'K') {
                fault("three, by way of " + by, "D=K;K=" + by + ";" + by + "=D;", 0);
                fault("three, by way of " + by, "G=1;K=" + by + ";" + by + "=D;D=K;", 4);
            }
        }
        StringBuilder text = new StringBuilder();
        for (char c = 'A'; c < 'Z'; c++) {
            text.append(c).append('=').append((char) (c + 1)).append(';');
        }
        is("25 that are none", text + "Z=1;", 26);
        fault("26", text + "Z=A;", 0);
        fault("the last two", text + "Z=Y;", 96);
        fault("the last alone", text + "Z=Z;", 100);
    }

    private static void ringNamesTheFirstRuleInIt() {
        fault("not the rule that leads to it", "A=B;B=B;", 4);
        fault("not the rule that leads to it", "A=B;B=C;C=B;", 4);
        fault("not the rule that leads away", "B=1;B=A;A=1;B=C;C=B;", 12);
        fault("not a rule with two items", "A=AA;A=B;B=A;", 5);
        fault("not a rule with a symbol", "A=1;B=A;A=B;", 4);
        fault("the first of two rings", "C=1;A=A;B=B;", 4);
        fault("the first of two rings", "C=1;B=B;A=A;", 4);
        fault("the place of its LEFT, behind blanks", "C=1;   A  =  A;", 7);
    }

    private static void noRing() {
        is("two items", "A=AA;", 1);
        is("two items", "A=A1;", 1);
        is("two items", "A=1A;", 1);
        is("two items lead back", "A=B;B=AA;", 2);
        is("two ways to one", "A=B;A=C;B=D;C=D;D=1;", 5);
        is("the same rule twice", "A=B;A=B;B=1;", 3);
    }

    private static void noRingByAnEarlierText() {
        for (char c = 'A'; c <= 'Z'; c++) {
            char other = c == 'A' ? 'Z' : 'A';
            ChordGrammars x = new ChordGrammars();
            due.same("a rule", Due.grammar(x, c + "=" + other + ";"), 1);
            due.same("its other way round, in another text", Due.grammar(x, other + "=" + c + ";"), 1);
            due.same("a ring", Due.grammar(x, c + "=" + c + ";"), -2);
            due.same("it is gone", Due.grammar(x, c + "=" + other + ";"), 1);
        }
    }

    private static void nameOfNoRule() {
        ChordGrammars x = made("A=B;A=1;A=BA;A=AB;", C, C);
        due.same("nothing comes of B", x.parse(), 0);
        due.same("A reads one", x.cell(0, 0, 0), 1);
        due.same("B reads none", x.cell(0, 0, 1), 0);
        is("alone", "A=B;", 1);
        is("both", "A=BC;", 1);
    }

    private static void symbolReadsOneSlot() {
        ChordGrammars x = made("A=1;", C);
        due.same("one slot", x.parse(), 1);
        x.slot(C, 0, NONE);
        due.same("not two", x.parse(), 0);
        due.same("each of them", x.cell(0, 0, 0), 1);
        due.same("each of them", x.cell(1, 1, 0), 1);
        due.same("not both", x.cell(0, 1, 0), 0);
    }

    private static void symbolOfSeveralKinds() {
        ChordGrammars x = made("A=1;", Due.set(0, 7));
        x.parse();
        due.same("M and m at the same cost: the lesser", x.chord(0, 0), 0);
        x = made("A=1;", Due.set(0, 3, 6, 9, 10));
        x.parse();
        due.same("h and o at the same cost: the lesser", x.chord(0, 0), 12 * 7);
        x = made("A=1;", Due.set(0, 3, 6, 9));
        x.parse();
        due.same("o at less cost", x.chord(0, 0), 12 * 8);
        x = made("A=1;", 4095);
        x.cost(0, 0);
        x.parse();
        due.same("all at the same cost", x.chord(0, 0), 0);
        x = made("A=1o;", 4095);
        x.parse();
        due.same("the kind that is told", x.chord(0, 0), 12 * 8);
        x = made("A=1h;", Due.set(0, 4, 7));
        due.same("it does not fit", x.parse(), 0);
        x = made("A=1;", Due.set(1, 2));
        due.same("no kind fits", x.parse(), 0);
        x = made("A=1;A=1;", Due.set(0, 7));
        due.same("one reading of a symbol, whatever its kinds", x.parse(), 2);
    }

    private static void twoItemsNeedTwoSlots() {
        ChordGrammars x = made("A=11;", C);
        due.same("one slot", x.parse(), 0);
        x.slot(C, 0, NONE);
        due.same("two slots", x.parse(), 1);
        x.slot(C, 0, NONE);
        due.same("three slots", x.parse(), 0);
    }

    /** The rule with one item stands first, so that the name reads the row already when the other rule is tried. */
    private static void noPartIsEmpty() {
        long[] catalan = {1, 1, 2, 5, 14};
        for (int slots = 1; slots <= 5; slots++) {
            int[] sets = new int[slots];
            Arrays.fill(sets, C);
            ChordGrammars x = made("A=1;A=AA;", sets);
            due.same("parts of " + slots, x.parse(), (int) catalan[slots - 1]);
            due.same("parts of " + slots, x.readings(), catalan[slots - 1]);
            x = made("A=1;A=BA;A=AB;B=1;", sets);
            x.parse();
            due.same("parts at either end of " + slots, x.readings(), 1L << slots - 1);
            for (int slot = 0; slot < slots; slot++) {
                due.same("one slot has no two parts", x.cell(slot, slot, 0), 1);
            }
        }
    }

    private static void partsAreInTheirOrder() {
        ChordGrammars x = made("A=1M5s;", C, G7);
        due.same("the first item the first part", x.parse(), 1);
        x = made("A=5s1M;", C, G7);
        due.same("not the other way", x.parse(), 0);
        x = made("A=BC;B=1;B=11;C=5;C=55;", 4095, 4095, 4095);
        due.same("one and two, two and one", x.parse(), 2);
        due.same("the first part of the first", x.node(0, 1, 2), 0);
        due.same("the first part of the second", x.node(1, 1, 2), 1);
    }

    private static void costOfAReading() {
        ChordGrammars x = made("A=BC:100;B=1:20;C=5:3;", Due.set(0, 4), Due.set(7, 11, 2, 9));
        due.same("one reading", x.parse(), 1);
        due.same("rules and chords together", x.price(0), 123 + 3 + 4);
        x = made("A=1;", C);
        due.same("one reading", x.parse(), 1);
        due.same("no cost at all", x.price(0), 0);
    }

    private static void firstRulesLeftIsRead() {
        ChordGrammars x = made("B=1:5;A=1:2;B=1:4;", C);
        due.same("B's alone", x.parse(), 2);
        due.same("B's least", x.price(0), 4);
        due.same("A's are counted in their cell", x.cell(0, 0, 0), 1);
    }

    private static void allSlotsAreRead() {
        ChordGrammars x = made("A=AA;A=1M;", C, C, G7);
        due.same("the last one can't be read", x.parse(), 0);
        x = made("A=AA;A=1M;", G7, C, C);
        due.same("the first one can't be read", x.parse(), 0);
        due.same("the others can", x.cell(1, 2, 0), 1);
    }

    private static void lessCostFirst() {
        ChordGrammars x = made("A=1:1;A=1:0;", C);
        x.parse();
        due.same("less cost before the lesser rule", x.node(0, 0, 0), 1);
        x = made("A=BB;B=1:1;B=C;C=11;", C, C, C);
        x.parse();
        due.same("both cost the same: the shorter first", x.node(0, 1, 2), 0);
        x = made("A=BB;A=DB;B=1:1;B=C;C=11;D=11;", C, C, C);
        x.parse();
        due.same("less cost before the shorter part", x.price(0), 1);
        x = made("A=BE;A=DB;B=1:1;E=11:1;D=11;", C, C, C);
        x.parse();
        due.same("less cost before the shorter part", x.node(0, 1, 2), 1);
        due.same("and the shorter part behind it", x.node(1, 1, 2), 0);
    }

    private static void lesserRuleThen() {
        ChordGrammars x = made("A=DB;A=BD;B=1;D=11;", C, C, C);
        x.parse();
        due.same("the lesser rule before the shorter part", x.node(0, 0, 0), 0);
        due.same("its first part is longer", x.node(0, 1, 2), 1);
        due.same("the other rule", x.node(1, 0, 0), 1);
        x = made("A=C;A=B;B=1;C=1:0;", C);
        x.parse();
        due.same("the lesser rule before the lesser item", x.node(0, 1, 0), 3);
    }

    private static void shorterFirstPartThen() {
        ChordGrammars x = made("A=BB;B=11;B=1;", C, C, C);
        due.same("two", x.parse(), 2);
        due.same("the shorter part before the lesser item", x.node(0, 1, 0), 2);
        due.same("the longer part of the lesser rule", x.node(1, 1, 0), 1);
    }

    private static void lesserFirstItemThen() {
        ChordGrammars x = made("A=BB;B=1:1;B=1:0;", C, C);
        due.same("four", x.parse(), 4);
        int[][] rules = {{2, 2}, {2, 1}, {1, 2}, {1, 1}};
        for (int k = 0; k < 4; k++) {
            due.same("the first item's cost before the second's", x.node(k, 1, 0), rules[k][0]);
            due.same("the second item", x.node(k, 3, 0), rules[k][1]);
        }
    }

    private static void lesserSecondItemThen() {
        ChordGrammars x = made("A=1B;B=1:1;B=C:1;C=1;", C, C);
        due.same("two", x.parse(), 2);
        due.same("the second item's lesser rule", x.node(0, 2, 0), 1);
        due.same("the second item's other rule", x.node(1, 2, 0), 2);
    }

    private static void thirtyAreListed() {
        for (int n : new int[] {1, 2, 29, 30, 31, 60}) {
            ChordGrammars x = made("A=1:5;".repeat(n), C);
            due.same("LISTED of " + n, x.parse(), Math.min(30, n));
            due.same("LISTED of " + n, x.told(3), Math.min(30, n));
            due.same("all are counted", x.readings(), n);
            due.same("the last one", x.price(Math.min(30, n) - 1), 5);
            due.same("the last one's rule", x.node(Math.min(30, n) - 1, 0, 0), Math.min(30, n) - 1);
            due.same("the one behind it", x.price(Math.min(30, n)), NONE);
        }
        ChordGrammars x = made("A=1:1;".repeat(30) + "A=1;".repeat(30), C);
        due.same("LISTED", x.parse(), 30);
        due.same("the least ones, not the first ones", x.node(29, 0, 0), 59);
    }

    /** Either part alone may have all 30, or both some: in the order, the first item's rule, then the second's. */
    private static void thirtyOfTwoParts() {
        int[][] sizes = {{1, 29}, {1, 30}, {1, 31}, {29, 1}, {30, 1}, {31, 1}, {2, 15}, {15, 2}, {5, 6}, {6, 5}, {3, 11}, {28, 28}};
        for (int[] size : sizes) {
            ChordGrammars x = made("A=BC;" + "B=1;".repeat(size[0]) + "C=1;".repeat(size[1]), C, C);
            int all = size[0] * size[1];
            due.same("LISTED of " + size[0] + " and " + size[1], x.parse(), Math.min(30, all));
            due.same("all are counted", x.readings(), all);
            for (int reading = 0; reading < Math.min(30, all); reading++) {
                due.same("the first item's rule", x.node(reading, 1, 0), 1 + reading / size[1]);
                due.same("the second item's rule", x.node(reading, 3, 0), 1 + size[0] + reading % size[1]);
            }
            due.same("no more", x.nodes(Math.min(30, all)), NONE);
        }
    }

    private static void listedAreAsTheyWere() {
        stays("key()", x -> x.key(7, true));
        for (int which = 0; which < 4; which++) {
            int each = which;
            stays("cost(" + which + ", ..)", x -> x.cost(each, 1000));
        }
        stays("draft()", x -> x.draft(8, Due.octets("S=1;A=1;")));
        stays("grammar()", x -> x.write("A=7o:9;S=A;").grammar());
        stays("a fault", x -> x.write("A=7o:9;S").grammar());
        stays("slot()", x -> x.slot(4095, 1, 61));
        stays("clear()", Recorder::clear);
        stays("clear() and other slots", x -> {
            x.clear();
            x.slot(4095, 1, 61);
            x.slot(4095, 1, NONE);
        });
        stays("parse() without slots", x -> {
            x.clear();
            x.parse();
        });
        stays("fit() and best()", x -> {
            x.fit(0, 0, 0);
            x.best(1);
        });
    }

    private static void stays(String what, Consumer<Recorder> change) {
        Recorder x = new Recorder();
        x.write("S=AB:2;S=BS;A=1;A=1M:1;B=5;B=5s:1;").grammar();
        x.slot(C, 4, 60);
        x.slot(G7, 11, 62);
        x.slot(C, 0, 64);
        x.slot(G7, 7, 65);
        due.yes("LISTED: several", x.parse() > 1);
        List<String> before = x.listed();
        change.accept(x);
        List<String> behind = x.listed();
        for (int k = 0; k < before.size(); k++) {
            due.yes("LISTED, behind " + what + ": " + behind.get(k) + ", due is " + before.get(k), behind.get(k).equals(before.get(k)));
        }
    }
}
