/** Promises 10 to 15 and 18, on readings that were found by hand. */
public final class ReadingTest {
    private static final Due due = new Due("ReadingTest");
    private static final int C = Due.set(0, 4, 7);
    private static final int G7 = Due.set(7, 11, 2, 5);
    private static final int[] CATALAN = {1, 1, 2, 5, 14, 42, 132, 429};

    public static void main(String[] args) {
        twoReadings();
        noneSuch();
        symbols();
        orderByRule();
        orderByCost();
        orderByPart();
        orderByItems();
        mostThirty();
        cells();
        noReading();
        whatIsListedStays();
        parseRefused();
        namesOfNoRule();
        due.end();
    }

    private static ChordGrammars made(String text, int... sets) {
        ChordGrammars x = new ChordGrammars();
        due.yes("5: '" + text + "'", Due.grammar(x, text) > 0);
        for (int set : sets) {
            x.slot(set, -1, -1);
        }
        return x;
    }

    private static void tree(String what, ChordGrammars x, int reading, int[][] want) {
        due.same(what + ": nodes(" + reading + ")", x.nodes(reading), want.length);
        for (int i = 0; i < want.length; i++) {
            for (int k = 0; k < 4; k++) {
                due.same(what + ": node(" + reading + ", " + i + ", " + k + ")", x.node(reading, i, k), want[i][k]);
            }
        }
        due.same(what + ": a node behind the last", x.node(reading, want.length, 0), -1);
    }

    private static void twoReadings() {
        ChordGrammars x = made("P=TC:2;C=DT;D=5:0;D=5s:1;T=1;", C, G7, C);
        due.same("10: parse()", x.parse(), 2);
        due.same("11: readings()", x.readings(), 2);
        due.same("12: price(0)", x.price(0), 2);
        due.same("12: price(1)", x.price(1), 3);
        int[][] first = {{0, 0, 2, -1}, {4, 0, 0, -1}, {-1, 0, 0, 0}, {1, 1, 2, -1},
            {2, 1, 1, -1}, {-1, 1, 1, 55}, {4, 2, 2, -1}, {-1, 2, 2, 0}};
        tree("13, 14", x, 0, first);
        int[][] second = first.clone();
        second[4] = new int[] {3, 1, 1, -1};
        tree("13, 14", x, 1, second);
        tree("13, 14: the first one again", x, 0, first);
        due.same("15: chord(0, 0)", x.chord(0, 0), 0);
        due.same("15: chord(0, 1)", x.chord(0, 1), 55);
        due.same("15: chord(1, 2)", x.chord(1, 2), 0);
    }

    private static void noneSuch() {
        ChordGrammars x = made("A=1;", C);
        due.same("10: parse()", x.parse(), 1);
        for (int wrong : new int[] {-1, 1, 30, Integer.MIN_VALUE, Integer.MAX_VALUE}) {
            due.same("12: price(" + wrong + ")", x.price(wrong), -1);
            due.same("13: reading " + wrong, x.node(wrong, 0, 0), -1);
            due.same("14: nodes(" + wrong + ")", x.nodes(wrong), -1);
            due.same("15: reading " + wrong, x.chord(wrong, 0), -1);
            due.same("15: slot " + wrong, x.chord(0, wrong), -1);
            due.same("16: cadence(" + wrong + ")", x.cadence(wrong), -1);
            due.same("17: reading " + wrong, x.melody(wrong, 0), -1);
        }
        for (int wrong : new int[] {-1, 2, 1246, Integer.MIN_VALUE, Integer.MAX_VALUE}) {
            due.same("13: node " + wrong, x.node(0, wrong, 1), -1);
        }
        for (int wrong : new int[] {-1, 4, Integer.MIN_VALUE, Integer.MAX_VALUE}) {
            due.same("13: what " + wrong, x.node(0, 0, wrong), -1);
        }
    }

    private static void symbols() {
        ChordGrammars x = made("A=1;", Due.set(0, 4, 10));
        due.same("10: 1 fits", x.parse(), 1);
        due.same("15: the least, s", x.chord(0, 0), 12 * 4);
        due.same("12: its cost", x.price(0), 3);
        x = made("A=1M:10;", Due.set(0, 4, 10));
        due.same("10: 1M fits", x.parse(), 1);
        due.same("12: its cost", x.price(0), 10 + 4 + 3);
        x = made("A=1;", Due.set(0, 7));
        due.same("10: M and m alike", x.parse(), 1);
        due.same("15: the lesser kind", x.chord(0, 0), 0);
        x = made("A=2m;", Due.set(0, 4, 7));
        due.same("10: 2m does not fit", x.parse(), 0);
        due.same("11: readings()", x.readings(), 0);
    }

    private static void orderByRule() {
        ChordGrammars x = made("A=1;A=B;B=1;A=1M:0;", C);
        due.same("10: parse()", x.parse(), 3);
        due.same("the first rule", x.node(0, 0, 0), 0);
        due.same("the second rule", x.node(1, 0, 0), 1);
        due.same("the second rule's part", x.node(1, 1, 0), 2);
        due.same("the fourth rule", x.node(2, 0, 0), 3);
    }

    private static void orderByCost() {
        ChordGrammars x = made("A=1:2;A=1:1;A=1:3;A=1;", C);
        due.same("10: parse()", x.parse(), 4);
        int[] rules = {3, 1, 0, 2};
        for (int k = 0; k < 4; k++) {
            due.same("12: price", x.price(k), k);
            due.same("its rule", x.node(k, 0, 0), rules[k]);
        }
    }

    private static void orderByPart() {
        ChordGrammars x = made("A=AA;A=1;", C, C, C, C);
        due.same("10: parse()", x.parse(), 5);
        int[] firstParts = {1, 1, 2, 3, 3};
        for (int k = 0; k < 5; k++) {
            due.same("the first part ends", x.node(k, 1, 2), firstParts[k] - 1);
        }
        due.same("1 and 1 + 2", x.node(0, 4, 2), 1);
        due.same("1 and 2 + 1", x.node(1, 4, 2), 2);
        due.same("1 + 2 and 1", x.node(3, 2, 2), 0);
        due.same("2 + 1 and 1", x.node(4, 2, 2), 1);
        due.same("14: nodes", x.nodes(0), 11);
    }

    private static void orderByItems() {
        ChordGrammars x = made("A=BC;B=1:2;B=1:1;C=1:1;C=1:2;", C, C);
        due.same("10: parse()", x.parse(), 4);
        int[][] want = {{2, 2, 3}, {3, 2, 4}, {3, 1, 3}, {4, 1, 4}};
        for (int k = 0; k < 4; k++) {
            due.same("12: price", x.price(k), want[k][0]);
            due.same("the first item's rule", x.node(k, 1, 0), want[k][1]);
            due.same("the second item's rule", x.node(k, 3, 0), want[k][2]);
        }
    }

    private static void mostThirty() {
        ChordGrammars x = made("A=AA;A=1:1;A=1:2;", C, C, C, C);
        due.same("10: no more than 30", x.parse(), 30);
        due.same("19: told(3)", x.told(3), 30);
        due.same("11: all are counted", x.readings(), 5 * 16);
        int[] prices = new int[30];
        for (int k = 0; k < 30; k++) {
            prices[k] = k < 5 ? 4 : k < 25 ? 5 : 6;
            due.same("12: price(" + k + ")", x.price(k), prices[k]);
        }
        due.same("12: price(30)", x.price(30), -1);
        x = made("A=" + "1;A=".repeat(28) + "1;", C);
        due.same("10: 29 of 29", x.parse(), 29);
        x = made("A=" + "1;A=".repeat(29) + "1;", C);
        due.same("10: 30 of 30", x.parse(), 30);
        x = made("A=" + "1;A=".repeat(30) + "1;", C);
        due.same("10: 30 of 31", x.parse(), 30);
        due.same("11: 31", x.readings(), 31);
    }

    private static void cells() {
        ChordGrammars x = made("A=AA;A=1M;B=AA;B=B5s;M=5s;", C, C, C, C, C, C, C, G7);
        due.same("10: A does not read G7", x.parse(), 0);
        for (int from = 0; from < 8; from++) {
            for (int to = from; to < 8; to++) {
                int n = to - from;
                due.same("18: A", x.cell(from, to, 0), to == 7 ? 0 : CATALAN[n]);
                long pair = to < 7 ? (n == 0 ? 0 : CATALAN[n]) : n < 2 ? 0 : CATALAN[n - 1];
                due.same("18: B " + from + " " + to, x.cell(from, to, 1), pair);
                due.same("18: M", x.cell(from, to, 12), from == 7 ? 1 : 0);
                due.same("18: Z", x.cell(from, to, 25), 0);
            }
        }
        due.noCell("18", x, 0, 8, 0);
        due.noCell("18", x, -1, 0, 0);
        due.noCell("18", x, 1, 0, 0);
        due.noCell("18", x, 0, 0, -1);
        due.noCell("18", x, 0, 0, 26);
        due.noCell("18", x, 8, 8, 0);
        due.noCell("18", x, Integer.MIN_VALUE, Integer.MAX_VALUE, 0);
        due.noCell("18", x, Integer.MAX_VALUE, Integer.MAX_VALUE, 0);
        due.noCell("18", x, 0, 0, Integer.MIN_VALUE);
        x.slot(C, 0, -1);
        due.noCell("18: the slots are those of the parse", x, 0, 8, 0);
        x.clear();
        due.same("18: and stay so", x.cell(0, 6, 0), 132);
    }

    private static void noReading() {
        ChordGrammars x = made("A=1;", C);
        due.same("10: parse()", x.parse(), 1);
        x.slot(C, 0, -1);
        due.same("10: none", x.parse(), 0);
        due.same("11: none", x.readings(), 0);
        due.same("12: none", x.price(0), -1);
        due.same("14: none", x.nodes(0), -1);
        due.same("19: none listed", x.told(3), 0);
        due.same("19: two slots", x.told(4), 2);
        due.same("18: parts are counted", x.cell(1, 1, 0), 1);
        due.same("18: the whole", x.cell(0, 1, 0), 0);
    }

    private static void whatIsListedStays() {
        ChordGrammars x = new ChordGrammars();
        Due.grammar(x, "A=5B:1;B=1;");
        x.slot(G7, 7, 65);
        x.slot(C, 0, 62);
        due.same("10: parse()", x.parse(), 1);
        x.key(3, true);
        x.cost(0, 77);
        Due.grammar(x, "B=A;Z=2;");
        x.clear();
        x.slot(4095, 1, -1);
        due.same("11: readings()", x.readings(), 1);
        due.same("12: price", x.price(0), 1);
        tree("13", x, 0, new int[][] {{0, 0, 1, -1}, {-1, 0, 0, 55}, {1, 1, 1, -1}, {-1, 1, 1, 0}});
        due.same("15: chord", x.chord(0, 1), 0);
        due.same("16: cadence", x.cadence(0), 1);
        due.same("17: melody", x.melody(0, 0), 0);
        due.same("17: melody", x.melody(0, 1), 7);
        due.same("18: cell", x.cell(0, 1, 0), 1);
        due.same("19: listed", x.told(3), 1);
        due.same("19: slots", x.told(4), 2);
        due.same("10: parse() again", x.parse(), 0);
        due.same("12: no more", x.price(0), -1);
        due.same("15: no more", x.chord(0, 1), -1);
        due.noCell("18: no more", x, 0, 1, 0);
        Due.grammar(x, "C=2o;");
        due.same("10: parse() again", x.parse(), 1);
        due.same("13: the tree is the new one's", x.nodes(0), 2);
        due.same("15: the chord is the new one's", x.chord(0, 0), 12 * 8 + 5);
        due.same("12: at the new cost", x.price(0), 8 * 77 + 5);
    }

    private static void parseRefused() {
        ChordGrammars x = new ChordGrammars();
        x.slot(C, 0, 60);
        due.same("10: no grammar", x.parse(), -1);
        Due.grammar(x, "A=1:4;");
        due.same("10: both", x.parse(), 1);
        x.clear();
        due.same("10: no slots", x.parse(), -1);
        due.same("11: stays", x.readings(), 1);
        due.same("12: stays", x.price(0), 4);
        due.same("19: stays", x.told(3), 1);
        due.same("19: stays", x.told(4), 1);
        due.same("18: stays", x.cell(0, 0, 0), 1);
    }

    private static void namesOfNoRule() {
        ChordGrammars x = made("A=B;A=1C;A=1A;A=1:3;", C, C);
        due.same("10: nothing comes of B and C", x.parse(), 1);
        due.same("12: price", x.price(0), 3);
        due.same("13: its rule", x.node(0, 0, 0), 2);
    }
}
