import java.math.BigInteger;

/** The edges that promises 8 to 19 name: each argument's least, greatest and those next to them, empty, full, wrapping. */
public final class AnswersEdgesTest {
    private static final Due due = new Due("AnswersEdgesTest");
    private static final int NONE = ChordGrammars.NONE;
    private static final int MIN = Integer.MIN_VALUE;
    private static final int MAX = Integer.MAX_VALUE;
    private static final int C = Due.set(0, 4, 7);

    public static void main(String[] args) {
        fitOfEachSlot();
        fitOfEachRoot();
        fitOfEachKind();
        fitNotAtAll();
        bestOfEachSlot();
        bestOfSeveralKinds();
        bestOfSeveralRoots();
        bestThatIsNone();
        greatestBest();
        parseWithoutGrammar();
        parseWithoutSlots();
        parseWithoutBoth();
        parseListsNone();
        parseListsOne();
        parseListsThirty();
        parseTakesAllAsItIsNow();
        readingsBefore();
        readingsOfNone();
        readingsStay();
        readingsWrap();
        priceOfEachReading();
        leastAndGreatestPrice();
        nodeOfEachReading();
        nodeOfEachPlace();
        nodeOfEachWhat();
        leastAndGreatestNodes();
        nodesOfEachReading();
        chordOfEachReadingAndSlot();
        cadenceOfEachReading();
        cadenceOfOneSlot();
        cadenceOfEachPair();
        melodyOfEachReadingAndSlot();
        melodyWithoutPitch();
        melodyByBothNeighbours();
        melodyAtTheEndsOfPitch();
        melodyOfTheFirstAndLastSlot();
        cellOfEachRow();
        cellOfEachLetter();
        cellBefore();
        cellStays();
        cellsWrap();
        toldOfEachWhat();
        toldLeastAndGreatest();
        due.end();
    }

    private static ChordGrammars made(String text, int slots) {
        ChordGrammars x = new ChordGrammars();
        due.yes("5: '" + text + "'", Due.grammar(x, text) > 0);
        for (int k = 0; k < slots; k++) {
            x.slot(C, 0, 60);
        }
        return x;
    }

    private static ChordGrammars parsed(String text, int slots) {
        ChordGrammars x = made(text, slots);
        due.yes("10: parse()", x.parse() >= 0);
        return x;
    }

    private static void fitOfEachSlot() {
        for (int slots : new int[] {0, 1, 2, 23, 24}) {
            ChordGrammars x = made("A=1;", slots);
            for (int slot = -1; slot <= 25; slot++) {
                due.same("8: slot " + slot + " of " + slots, x.fit(slot, 0, 0), slot >= 0 && slot < slots ? 0 : NONE);
            }
            due.same("8: slot MIN", x.fit(MIN, 0, 0), NONE);
            due.same("8: slot MAX", x.fit(MAX, 0, 0), NONE);
        }
    }

    private static void fitOfEachRoot() {
        ChordGrammars x = new ChordGrammars();
        x.slot(4095, NONE, NONE);
        for (int root = -13; root <= 24; root++) {
            due.same("8: root " + root, x.fit(0, root, 0), root >= 0 && root < 12 ? 36 : NONE);
        }
        due.same("8: root MIN", x.fit(0, MIN, 0), NONE);
        due.same("8: root MAX", x.fit(0, MAX, 0), NONE);
    }

    private static void fitOfEachKind() {
        ChordGrammars x = new ChordGrammars();
        x.slot(4095, NONE, NONE);
        for (int kind = -2; kind <= 10; kind++) {
            due.same("8: kind " + kind, x.fit(0, 11, kind), kind < 0 || kind > 8 ? NONE : kind < 4 ? 36 : 32);
        }
        due.same("8: kind MIN", x.fit(0, 0, MIN), NONE);
        due.same("8: kind MAX", x.fit(0, 0, MAX), NONE);
    }

    private static void fitNotAtAll() {
        ChordGrammars x = new ChordGrammars();
        x.slot(Due.set(0, 1), NONE, NONE);
        due.same("8: one class is not enough", x.fit(0, 0, 0), NONE);
        x.slot(Due.set(0, 7), NONE, NONE);
        due.same("8: two are", x.fit(1, 0, 0), 3);
        x.slot(Due.set(1, 2), NONE, NONE);
        due.same("8: none is not", x.fit(2, 0, 0), NONE);
    }

    private static void bestOfEachSlot() {
        for (int slots : new int[] {0, 1, 24}) {
            ChordGrammars x = made("A=1;", slots);
            for (int slot = -1; slot <= 25; slot++) {
                due.same("9: slot " + slot + " of " + slots, x.best(slot), slot >= 0 && slot < slots ? 0 : NONE);
            }
            due.same("9: slot MIN", x.best(MIN), NONE);
            due.same("9: slot MAX", x.best(MAX), NONE);
        }
    }

    private static int bestOf(int bass, int... classes) {
        ChordGrammars x = new ChordGrammars();
        due.same("6: slot", x.slot(Due.set(classes), bass, NONE), 0);
        return x.best(0);
    }

    private static void bestOfSeveralKinds() {
        due.same("9: M and m", bestOf(NONE, 0, 7), 0);
        due.same("9: m of a lesser root is behind M", bestOf(NONE, 3, 7, 10, 0), 12 * 6);
        due.same("9: M of root 8 before m of root 0", bestOf(NONE, 0, 3), 8);
        due.same("9: h before o", bestOf(NONE, 0, 3, 6, 9, 10), 12 * 7);
    }

    private static void bestOfSeveralRoots() {
        due.same("9: a of three roots", bestOf(NONE, 3, 7, 11), 12 * 3 + 3);
        due.same("9: o of four roots", bestOf(NONE, 2, 5, 8, 11), 12 * 8 + 2);
        due.same("9: the bass tells", bestOf(11, 2, 5, 8, 11), 12 * 8 + 11);
        ChordGrammars x = new ChordGrammars();
        x.slot(4095, NONE, NONE);
        x.cost(0, 0);
        due.same("9: all alike", x.best(0), 0);
    }

    private static void bestThatIsNone() {
        for (int c = 0; c < 12; c++) {
            due.same("9: one class", bestOf(NONE, c), NONE);
        }
        for (int c = 0; c < 12; c++) {
            due.same("9: two that only j has side by side", bestOf(NONE, c, (c + 1) % 12), 12 * 5 + (c + 1) % 12);
        }
    }

    private static void greatestBest() {
        ChordGrammars x = new ChordGrammars();
        x.slot(Due.set(11, 2, 5, 8), 11, NONE);
        due.same("9: o of root 11", x.best(0), 107);
        x.slot(Due.set(11, 3, 6), 11, NONE);
        due.same("9: M of root 11", x.best(1), 11);
    }

    private static void parseWithoutGrammar() {
        ChordGrammars x = new ChordGrammars();
        x.slot(C, 0, 60);
        due.same("10: no grammar", x.parse(), NONE);
        due.same("19: no slots were parsed", x.told(4), 0);
        due.noCell("18: no slots were parsed", x, 0, 0, 0);
        due.same("5: a fault is none", Due.grammar(x, "A=A;"), -2);
        due.same("10: still no grammar", x.parse(), NONE);
    }

    private static void parseWithoutSlots() {
        ChordGrammars x = made("A=1;", 0);
        due.same("10: no slots", x.parse(), NONE);
        x.slot(C, 0, 60);
        due.same("10: one slot", x.parse(), 1);
        x.clear();
        due.same("10: no slots again", x.parse(), NONE);
        due.same("10: what was listed stays", x.told(3), 1);
        due.same("10: what was listed stays", x.chord(0, 0), 0);
        due.same("10: what was listed stays", x.melody(0, 0), 0);
        due.same("10: what was listed stays", x.told(4), 1);
    }

    private static void parseWithoutBoth() {
        ChordGrammars x = new ChordGrammars();
        due.same("10: neither", x.parse(), NONE);
        due.same("11: 0 before", x.readings(), 0);
    }

    private static void parseListsNone() {
        ChordGrammars x = parsed("A=1;", 1);
        x.slot(C, 0, 60);
        due.same("10: none", x.parse(), 0);
        due.same("19: told(3)", x.told(3), 0);
        due.same("19: told(4)", x.told(4), 2);
        due.same("12: price(0)", x.price(0), NONE);
        due.same("13: node(0, 0, 1)", x.node(0, 0, 1), NONE);
        due.same("14: nodes(0)", x.nodes(0), NONE);
        due.same("15: chord(0, 0)", x.chord(0, 0), NONE);
        due.same("16: cadence(0)", x.cadence(0), NONE);
        due.same("17: melody(0, 0)", x.melody(0, 0), NONE);
    }

    private static void parseListsOne() {
        ChordGrammars x = made("A=1;", 1);
        due.same("10: one", x.parse(), 1);
        due.same("10: one again", x.parse(), 1);
        due.same("19: told(3)", x.told(3), 1);
    }

    private static void parseListsThirty() {
        for (int n = 28; n <= 33; n++) {
            ChordGrammars x = made("A=1;".repeat(n), 1);
            due.same("10: of " + n, x.parse(), Math.min(n, 30));
            due.same("11: of " + n, x.readings(), n);
            for (int reading = 0; reading < 30; reading++) {
                due.same("13: reading " + reading, x.node(reading, 0, 0), reading < n ? reading : NONE);
            }
            due.same("13: reading 30", x.node(30, 0, 0), NONE);
        }
    }

    private static void parseTakesAllAsItIsNow() {
        ChordGrammars x = parsed("A=1;", 1);
        x.cost(1, 8);
        x.key(7, true);
        due.same("10: another key", x.parse(), 1);
        due.same("15: by it", x.chord(0, 0), 12 * 8 + 7);
        due.same("12: and by another cost", x.price(0), 4 + 2 * 8 + 5);
        x.slot(C, 0, 60);
        due.same("10: another slot", x.parse(), 0);
        Due.grammar(x, "B=11:9;");
        due.same("10: another grammar", x.parse(), 1);
        due.same("12: by it", x.price(0), 9 + 2 * (4 + 2 * 8 + 5));
    }

    private static void readingsBefore() {
        ChordGrammars x = made("A=1;", 1);
        due.same("11: before", x.readings(), 0);
        x.clear();
        x.parse();
        due.same("11: behind a parse that was NONE", x.readings(), 0);
    }

    private static void readingsOfNone() {
        ChordGrammars x = parsed("A=1;", 1);
        due.same("11: one", x.readings(), 1);
        x.slot(C, 0, 60);
        due.same("11: still one", x.readings(), 1);
        x.parse();
        due.same("11: none", x.readings(), 0);
    }

    private static void readingsStay() {
        ChordGrammars x = parsed("A=1;A=1;", 1);
        x.clear();
        due.same("10: parse()", x.parse(), NONE);
        due.same("11: stay", x.readings(), 2);
    }

    /** Some rules of one slot, in a row of slots: their number to the power of the slots. */
    private static void powers(int rules, int slots) {
        ChordGrammars x = made("S=AS;S=A;" + "A=1;".repeat(rules), slots);
        BigInteger count = BigInteger.valueOf(rules).pow(slots);
        String what = rules + " to the power of " + slots;
        due.same("10: " + what, x.parse(), count.min(BigInteger.valueOf(30)).intValue());
        due.same("11: " + what, x.readings(), count.longValue());
        due.same("18: " + what, x.cell(0, slots - 1, 18), count.longValue());
        due.same("18: " + rules, x.cell(slots - 1, slots - 1, 18), rules);
        due.same("12: the least", x.price(0), 0);
    }

    private static void readingsWrap() {
        powers(7, 22);
        powers(7, 23);
        powers(8, 20);
        powers(8, 21);
        powers(8, 22);
        powers(8, 24);
        powers(3, 24);
        powers(6, 24);
        powers(29, 24);
        powers(58, 11);
        powers(58, 24);
        ChordGrammars x = parsed("S=AS;S=A;" + "A=1;".repeat(8), 21);
        due.same("11: the first that wraps", x.readings(), Long.MIN_VALUE);
        x = parsed("S=AS;S=A;" + "A=1;".repeat(7), 23);
        due.same("11: wraps and is above 0 again", x.readings(), 8922003266371364727L);
        x = parsed("S=AS;S=A;" + "A=1;".repeat(8), 22);
        due.same("11: wraps to 0", x.readings(), 0);
        due.same("19: and 30 are listed", x.told(3), 30);
    }

    /** Three readings of costs 0, 1, 2. */
    private static ChordGrammars three() {
        ChordGrammars x = parsed("A=1B;B=5:2;B=1;B=1:1;", 2);
        due.same("19: three", x.told(3), 3);
        return x;
    }

    private static void priceOfEachReading() {
        ChordGrammars x = parsed("A=1;A=1:1;A=1:2;", 1);
        for (int reading = -2; reading <= 31; reading++) {
            due.same("12: price(" + reading + ")", x.price(reading), reading >= 0 && reading < 3 ? reading : NONE);
        }
        due.same("12: price(MIN)", x.price(MIN), NONE);
        due.same("12: price(MAX)", x.price(MAX), NONE);
        x = parsed("A=1:3;".repeat(31), 1);
        for (int reading = -1; reading <= 31; reading++) {
            due.same("12: price(" + reading + ") of 30", x.price(reading), reading >= 0 && reading < 30 ? 3 : NONE);
        }
    }

    private static void leastAndGreatestPrice() {
        due.same("12: the least", parsed("A=1;", 1).price(0), 0);
        StringBuilder text = new StringBuilder();
        for (char c = 'A'; c < 'Z'; c++) {
            text.append(c).append('=').append((char) (c + 1)).append(":999;");
        }
        ChordGrammars x = made(text + "Z=1s:999;Z=AA:999;", 0);
        for (int which = 0; which < 4; which++) {
            x.cost(which, 1000);
        }
        for (int k = 0; k < 24; k++) {
            x.slot(4095 & ~Due.set(0, 10), 1, NONE);
        }
        due.same("10: parse()", x.parse(), 30);
        due.same("12: the greatest", x.price(0), 24 * 11000 + (24 + 23) * 26 * 999);
        due.same("12: the last one", x.price(29), 24 * 11000 + (24 + 23) * 26 * 999);
    }

    private static void nodeOfEachReading() {
        ChordGrammars x = three();
        for (int reading = -2; reading <= 31; reading++) {
            boolean isThere = reading >= 0 && reading < 3;
            due.same("13: reading " + reading, x.node(reading, 0, 0), isThere ? 0 : NONE);
            due.same("13: reading " + reading, x.node(reading, 0, 2), isThere ? 1 : NONE);
        }
        for (int wrong : new int[] {MIN, MAX}) {
            due.same("13: reading " + wrong, x.node(wrong, 0, 0), NONE);
        }
    }

    private static void nodeOfEachPlace() {
        ChordGrammars x = three();
        int[][] tree = {{0, 0, 1, -1}, {-1, 0, 0, 0}, {2, 1, 1, -1}, {-1, 1, 1, 0}};
        for (int i = -2; i <= 6; i++) {
            for (int what = 0; what < 4; what++) {
                due.same("13: node(0, " + i + ", " + what + ")", x.node(0, i, what), i >= 0 && i < 4 ? tree[i][what] : NONE);
            }
        }
        for (int wrong : new int[] {1245, 1246, 1247, MIN, MAX}) {
            due.same("13: node " + wrong, x.node(0, wrong, 1), NONE);
        }
    }

    private static void nodeOfEachWhat() {
        ChordGrammars x = three();
        for (int wrong : new int[] {-2, -1, 4, 5, MIN, MAX}) {
            for (int i = -1; i <= 4; i++) {
                due.same("13: node(0, " + i + ", " + wrong + ")", x.node(0, i, wrong), NONE);
            }
        }
        due.same("13: the least rule", x.node(0, 0, 0), 0);
        due.same("13: no rule of a symbol", x.node(0, 1, 0), NONE);
        due.same("13: no chord of a name", x.node(0, 0, 3), NONE);
        x = made("A=1;".repeat(59) + "A=7o;", 0);
        x.slot(Due.set(11, 2, 5, 8), 11, NONE);
        due.same("10: parse()", x.parse(), 1);
        due.same("13: the greatest rule", x.node(0, 0, 0), 59);
        due.same("13: the greatest chord", x.node(0, 1, 3), 107);
    }

    private static void leastAndGreatestNodes() {
        due.same("14: the least tree", parsed("A=1;", 1).nodes(0), 2);
        StringBuilder text = new StringBuilder();
        for (char c = 'A'; c < 'Z'; c++) {
            text.append(c).append('=').append((char) (c + 1)).append(';');
        }
        ChordGrammars x = parsed(text + "Z=1;Z=AA;", 24);
        due.same("14: the greatest tree", x.nodes(0), 1246);
        due.same("13: its last node's first slot", x.node(0, 1245, 1), 23);
        due.same("13: its last node's last slot", x.node(0, 1245, 2), 23);
        due.same("13: its last node's chord", x.node(0, 1245, 3), 0);
        due.same("13: behind it", x.node(0, 1246, 1), NONE);
        due.same("13: its first node's last slot", x.node(0, 0, 2), 23);
    }

    private static void nodesOfEachReading() {
        ChordGrammars x = three();
        for (int reading = -2; reading <= 31; reading++) {
            due.same("14: nodes(" + reading + ")", x.nodes(reading), reading >= 0 && reading < 3 ? 4 : NONE);
        }
        due.same("14: nodes(MIN)", x.nodes(MIN), NONE);
        due.same("14: nodes(MAX)", x.nodes(MAX), NONE);
    }

    private static void chordOfEachReadingAndSlot() {
        ChordGrammars x = three();
        for (int reading = -1; reading <= 3; reading++) {
            for (int slot = -1; slot <= 3; slot++) {
                boolean isThere = reading >= 0 && reading < 3 && slot >= 0 && slot < 2;
                int want = reading == 2 && slot == 1 ? 12 * 8 + 7 : 0;
                due.same("15: chord(" + reading + ", " + slot + ")", x.chord(reading, slot), isThere ? want : NONE);
            }
        }
        for (int wrong : new int[] {24, 30, MIN, MAX}) {
            due.same("15: slot " + wrong, x.chord(0, wrong), NONE);
            due.same("15: reading " + wrong, x.chord(wrong, 0), NONE);
        }
        x = parsed("A=1A;A=1;", 24);
        due.same("15: the 24th slot", x.chord(0, 23), 0);
        due.same("15: the 25th slot", x.chord(0, 24), NONE);
    }

    private static void cadenceOfEachReading() {
        ChordGrammars x = three();
        for (int reading = -2; reading <= 31; reading++) {
            due.same("16: cadence(" + reading + ")", x.cadence(reading), reading < 0 || reading > 2 ? NONE : reading == 2 ? 3 : 0);
        }
        due.same("16: cadence(MIN)", x.cadence(MIN), NONE);
        due.same("16: cadence(MAX)", x.cadence(MAX), NONE);
    }

    private static int cadenceOf(String text, int slots) {
        ChordGrammars x = new ChordGrammars();
        due.yes("5: '" + text + "'", Due.grammar(x, text) > 0);
        for (int k = 0; k < slots; k++) {
            x.slot(4095, NONE, NONE);
        }
        due.same("10: parse()", x.parse(), 1);
        return x.cadence(0);
    }

    private static void cadenceOfOneSlot() {
        int[] wants = {0, 0, 0, 0, 3, 0, 0};
        for (int degree = 1; degree <= 7; degree++) {
            due.same("16: " + degree + " alone", cadenceOf("A=" + degree + ";", 1), wants[degree - 1]);
        }
    }

    /** A row for each degree before, a column for each last one. */
    private static void cadenceOfEachPair() {
        String[] wants = {"0000300", "0000300", "0000300", "2000300", "1000340", "0000300", "0000300"};
        for (int before = 1; before <= 7; before++) {
            for (int last = 1; last <= 7; last++) {
                int want = wants[before - 1].charAt(last - 1) - '0';
                due.same("16: " + before + " " + last, cadenceOf("A=" + before + last + ";", 2), want);
                due.same("16: 5 " + before + " " + last, cadenceOf("A=5B;B=" + before + last + ";", 3), want);
            }
        }
    }

    private static void melodyOfEachReadingAndSlot() {
        ChordGrammars x = three();
        for (int reading = -1; reading <= 3; reading++) {
            for (int slot = -1; slot <= 3; slot++) {
                boolean isThere = reading >= 0 && reading < 3 && slot >= 0 && slot < 2;
                int want = reading == 2 && slot == 1 ? 7 : 0;
                due.same("17: melody(" + reading + ", " + slot + ")", x.melody(reading, slot), isThere ? want : NONE);
            }
        }
        for (int wrong : new int[] {24, 30, MIN, MAX}) {
            due.same("17: slot " + wrong, x.melody(0, wrong), NONE);
            due.same("17: reading " + wrong, x.melody(wrong, 0), NONE);
        }
    }

    private static int melodyOf(int before, int pitch, int behind) {
        ChordGrammars x = new ChordGrammars();
        due.same("5: grammar", Due.grammar(x, "A=1MB;B=1M1M;"), 2);
        due.same("6: before", x.slot(C, 0, before), 0);
        due.same("6: it", x.slot(C, 0, pitch), 1);
        due.same("6: behind", x.slot(C, 0, behind), 2);
        due.same("10: parse()", x.parse(), 1);
        return x.melody(0, 1);
    }

    private static void melodyWithoutPitch() {
        due.same("17: no pitch", melodyOf(60, NONE, 64), NONE);
        due.same("17: no pitch at all", melodyOf(NONE, NONE, NONE), NONE);
        due.same("17: pitch 0 is one", melodyOf(NONE, 0, NONE), 0);
        due.same("17: pitch 1 is one", melodyOf(NONE, 1, NONE), 7);
    }

    /**
     * A row for each way to it (3 down to 3 up, and no pitch before), a column for each way on (3 down to 3 up, and no
     * pitch behind): so each of 1 to 6 has its least and greatest step, and those next to them.
     */
    private static void melodyByBothNeighbours() {
        String[] wants = {"77745577", "71147267", "71142767", "73347777", "67241177", "62741177", "75547777", "77747777"};
        int[] ways = {-3, -2, -1, 0, 1, 2, 3};
        for (int pitch : new int[] {6, 61, 62, 63, 121}) {
            for (int row = 0; row < 8; row++) {
                for (int column = 0; column < 8; column++) {
                    int before = row < 7 ? pitch - ways[row] : NONE;
                    int behind = column < 7 ? pitch + ways[column] : NONE;
                    String what = "17: " + before + " " + pitch + " " + behind;
                    due.same(what, melodyOf(before, pitch, behind), wants[row].charAt(column) - '0');
                }
            }
        }
    }

    private static void melodyAtTheEndsOfPitch() {
        due.same("17: leaning from 0", melodyOf(0, 126, 125), 5);
        due.same("17: leaning from 127", melodyOf(127, 1, 2), 5);
        due.same("17: escaping to 0", melodyOf(125, 126, 0), 6);
        due.same("17: escaping to 127", melodyOf(2, 1, 127), 6);
        due.same("17: passing to 127", melodyOf(125, 126, 127), 1);
        due.same("17: passing to 0", melodyOf(2, 1, 0), 1);
        due.same("17: a neighbour of 0", melodyOf(0, 1, 0), 2);
        due.same("17: a neighbour of 127", melodyOf(127, 126, 127), 2);
        due.same("17: no pitch before is no step to 0", melodyOf(NONE, 1, 3), 7);
        due.same("17: no pitch behind is no step down", melodyOf(1, 1, NONE), 7);
    }

    private static void melodyOfTheFirstAndLastSlot() {
        ChordGrammars x = made("A=1MA;A=1M;", 0);
        for (int k = 0; k < 24; k++) {
            x.slot(C, 0, 62);
        }
        due.same("10: parse()", x.parse(), 1);
        due.same("17: the first", x.melody(0, 0), 4);
        due.same("17: the last but one", x.melody(0, 22), 4);
        due.same("17: the last", x.melody(0, 23), 7);
        due.same("17: behind it", x.melody(0, 24), NONE);
        x.clear();
        x.slot(C, 0, 62);
        due.same("10: one slot, where there were more", x.parse(), 1);
        due.same("17: nothing is behind it", x.melody(0, 0), 7);
        due.same("17: no second slot", x.melody(0, 1), NONE);
    }

    private static void cellOfEachRow() {
        ChordGrammars x = parsed("A=AA;A=1;", 3);
        int[] catalan = {1, 1, 2};
        for (int from = -1; from <= 4; from++) {
            for (int to = -1; to <= 4; to++) {
                if (from >= 0 && from <= to && to < 3) {
                    due.same("18: cell(" + from + ", " + to + ", 0)", x.cell(from, to, 0), catalan[to - from]);
                } else {
                    due.noCell("18", x, from, to, 0);
                }
            }
        }
        for (int wrong : new int[] {23, 24, MIN, MAX}) {
            due.noCell("18", x, 0, wrong, 0);
            due.noCell("18", x, wrong, 2, 0);
            due.noCell("18", x, wrong, wrong, 0);
        }
        x = parsed("A=1A;A=1;", 24);
        due.same("18: the 24th", x.cell(23, 23, 0), 1);
        due.same("18: all 24", x.cell(0, 23, 0), 1);
        due.noCell("18", x, 0, 24, 0);
        due.noCell("18", x, 24, 24, 0);
        due.noCell("18", x, 23, 22, 0);
    }

    private static void cellOfEachLetter() {
        StringBuilder text = new StringBuilder();
        for (int letter = 0; letter < 26; letter++) {
            text.append(((char) ('A' + letter) + "=1;").repeat(1 + letter % 3));
        }
        ChordGrammars x = parsed(text.toString(), 1);
        for (int letter = 0; letter < 26; letter++) {
            due.same("18: letter " + letter, x.cell(0, 0, letter), 1 + letter % 3);
        }
        for (int wrong : new int[] {-2, -1, 26, 27, 'A', MIN, MAX}) {
            due.noCell("18", x, 0, 0, wrong);
        }
    }

    private static void cellBefore() {
        ChordGrammars x = made("A=1;", 1);
        due.noCell("18: before any parse", x, 0, 0, 0);
        x.clear();
        x.parse();
        due.noCell("18: behind a parse that was NONE", x, 0, 0, 0);
    }

    private static void cellStays() {
        ChordGrammars x = parsed("A=1;A=1;", 1);
        x.slot(C, 0, 60);
        due.noCell("18: a slot behind the parse", x, 1, 1, 0);
        x.clear();
        due.same("10: parse()", x.parse(), NONE);
        due.same("18: behind a parse that was NONE", x.cell(0, 0, 0), 2);
        Due.grammar(x, "B=1;");
        due.same("18: behind another grammar", x.cell(0, 0, 0), 2);
        due.same("18: behind another grammar", x.cell(0, 0, 1), 0);
        x = parsed("A=1A;A=1;", 3);
        x.clear();
        x.slot(C, 0, 60);
        due.same("10: fewer slots", x.parse(), 1);
        due.noCell("18: of fewer slots", x, 0, 1, 0);
        due.noCell("18: of fewer slots", x, 2, 2, 0);
    }

    private static void cellsWrap() {
        ChordGrammars x = parsed("S=AS;S=A;" + "A=1;".repeat(8), 24);
        BigInteger count = BigInteger.ONE;
        for (int n = 1; n <= 24; n++) {
            count = count.shiftLeft(3);
            due.same("18: 8 to the power of " + n, x.cell(24 - n, 23, 18), count.longValue());
            due.same("18: at the front, too", x.cell(0, n - 1, 18), count.longValue());
        }
        due.same("18: the first that wraps", x.cell(3, 23, 18), Long.MIN_VALUE);
        due.same("18: wraps to 0", x.cell(2, 23, 18), 0);
    }

    private static void toldOfEachWhat() {
        ChordGrammars x = parsed("A=1;A=1;A=1;A=11;", 1);
        x.slot(C, 0, 60);
        Due.write(x, "12345");
        int[] wants = {2, 4, 5, 3, 1};
        for (int what = -2; what <= 7; what++) {
            due.same("19: told(" + what + ")", x.told(what), what >= 0 && what < 5 ? wants[what] : NONE);
        }
        due.same("19: told(MIN)", x.told(MIN), NONE);
        due.same("19: told(MAX)", x.told(MAX), NONE);
    }

    private static void toldLeastAndGreatest() {
        ChordGrammars x = new ChordGrammars();
        for (int what = 0; what < 5; what++) {
            due.same("19: the least of " + what, x.told(what), 0);
        }
        Due.grammar(x, "A=AA;" + "A=1;".repeat(59));
        for (int k = 0; k < 24; k++) {
            x.slot(C, 0, 60);
        }
        x.parse();
        Due.write(x, " ".repeat(800));
        int[] wants = {24, 60, 800, 30, 24};
        for (int what = 0; what < 5; what++) {
            due.same("19: the greatest of " + what, x.told(what), wants[what]);
        }
    }
}
