/** Promises 1 to 4, 6, 7 and 19. */
public final class SettingsTest {
    private static final Due due = new Due("SettingsTest");
    private static final int C_MAJOR = Due.set(0, 4, 7);

    public static void main(String[] args) {
        newObject();
        key();
        cost();
        draft();
        slot();
        clear();
        told();
        due.end();
    }

    private static void newObject() {
        ChordGrammars x = new ChordGrammars();
        for (int what = 0; what <= 4; what++) {
            due.same("1: told(" + what + ")", x.told(what), 0);
        }
        due.same("1: readings()", x.readings(), 0);
        due.same("1: parse()", x.parse(), -1);
        due.same("1: price(0)", x.price(0), -1);
        due.same("1: nodes(0)", x.nodes(0), -1);
        due.noCell("1", x, 0, 0, 0);
        Due.grammar(x, "A=1;");
        x.slot(C_MAJOR, 0, -1);
        due.same("1: parse()", x.parse(), 1);
        due.same("1: C major is the key", x.chord(0, 0), 0);
    }

    private static void key() {
        int[] major = {0, 2, 4, 5, 7, 9, 11};
        int[] minor = {0, 2, 3, 5, 7, 8, 10};
        for (int tonic = 0; tonic < 12; tonic++) {
            for (int degree = 1; degree <= 7; degree++) {
                due.same("2: major root", rootOf(tonic, false, degree), (tonic + major[degree - 1]) % 12);
                due.same("2: minor root", rootOf(tonic, true, degree), (tonic + minor[degree - 1]) % 12);
            }
        }
        ChordGrammars x = new ChordGrammars();
        due.yes("2: key(5, true)", x.key(5, true));
        for (int tonic : new int[] {-1, 12, Integer.MIN_VALUE, Integer.MAX_VALUE}) {
            due.no("2: key(" + tonic + ", false)", x.key(tonic, false));
        }
        Due.grammar(x, "A=3M;");
        x.slot(4095, -1, -1);
        x.parse();
        due.same("2: a refused key changes nothing", x.chord(0, 0), 8);
    }

    private static int rootOf(int tonic, boolean isMinor, int degree) {
        ChordGrammars x = new ChordGrammars();
        due.yes("2: key(" + tonic + ")", x.key(tonic, isMinor));
        Due.grammar(x, "A=" + degree + "M;");
        x.slot(4095, -1, -1);
        due.same("2: parse()", x.parse(), 1);
        return x.chord(0, 0);
    }

    private static void cost() {
        ChordGrammars x = new ChordGrammars();
        x.slot(Due.set(0, 4, 2, 9), 4, -1);
        x.slot(Due.set(0, 4, 2, 9), 2, -1);
        due.same("3: at first 4, 3, 1", x.fit(0, 0, 0), 2 * 4 + 3 + 1);
        due.same("3: at first 5", x.fit(1, 0, 0), 2 * 4 + 3 + 5);
        due.yes("3: cost(0, 1000)", x.cost(0, 1000));
        due.yes("3: cost(1, 100)", x.cost(1, 100));
        due.yes("3: cost(2, 10)", x.cost(2, 10));
        due.yes("3: cost(3, 0)", x.cost(3, 0));
        due.no("3: cost(4, 1)", x.cost(4, 1));
        due.no("3: cost(-1, 1)", x.cost(-1, 1));
        due.no("3: cost(0, -1)", x.cost(0, -1));
        due.no("3: cost(0, 1001)", x.cost(0, 1001));
        due.no("3: cost(MIN, MIN)", x.cost(Integer.MIN_VALUE, Integer.MIN_VALUE));
        due.no("3: cost(MAX, MAX)", x.cost(Integer.MAX_VALUE, Integer.MAX_VALUE));
        due.same("3: as set", x.fit(0, 0, 0), 2110);
        due.same("3: as set, 3", x.fit(1, 0, 0), 2100);
    }

    private static void draft() {
        ChordGrammars x = new ChordGrammars();
        due.same("4: draft(0)", x.draft(0, 0), -1);
        due.same("4: draft(9)", x.draft(9, 0), -1);
        due.same("4: draft(MIN)", x.draft(Integer.MIN_VALUE, 0), -1);
        due.same("4: draft(MAX)", x.draft(Integer.MAX_VALUE, 0), -1);
        due.same("4: lowest first", x.draft(4, 0x7777_7777_3B31_3D41L), 4);
        due.same("4: A=1;", x.grammar(), 1);
        for (int n = 1; n <= 8; n++) {
            due.same("4: draft(" + n + ")", x.draft(n, 0x2020202020202020L), n * (n + 1) / 2);
        }
        due.same("4: told(2)", x.told(2), 36);
        for (int k = 1; k <= 95; k++) {
            due.same("4: draft(8)", x.draft(8, 0x2020202020202020L), 36 + 8 * k);
        }
        due.same("4: 804", x.draft(8, 0x2020202020202020L), -1);
        due.same("4: 801", x.draft(5, 0x2020202020202020L), -1);
        due.same("4: still 796", x.told(2), 796);
        due.same("4: 800", x.draft(4, 0x3B313D41L), 800);
        due.same("4: 801", x.draft(1, 32), -1);
        due.same("4: all 800 are read", x.grammar(), 1);
        due.same("4: octets above 127", x.draft(1, 0xC1), 1);
        due.same("4: octets above 127 are no letters", x.grammar(), -2);
        due.same("4: the highest octet", x.draft(8, 0x3B20202020373D41L), 8);
        due.same("4: the highest octet is read", x.grammar(), 1);
    }

    private static void slot() {
        ChordGrammars x = new ChordGrammars();
        due.same("6: set 0", x.slot(0, -1, -1), -1);
        due.same("6: set 4096", x.slot(4096, -1, -1), -1);
        due.same("6: set -1", x.slot(-1, -1, -1), -1);
        due.same("6: bass not in it", x.slot(5, 1, -1), -1);
        due.same("6: bass 12", x.slot(4095, 12, -1), -1);
        due.same("6: bass 32, which a shift takes for 0", x.slot(4095, 32, -1), -1);
        due.same("6: bass -2", x.slot(4095, -2, -1), -1);
        due.same("6: bass MIN", x.slot(4095, Integer.MIN_VALUE, -1), -1);
        due.same("6: melody 128", x.slot(1, 0, 128), -1);
        due.same("6: melody -2", x.slot(1, 0, -2), -1);
        due.same("6: refused changes nothing", x.told(0), 0);
        due.same("6: least", x.slot(1, 0, 0), 0);
        due.same("6: most", x.slot(4095, 11, 127), 1);
        for (int k = 2; k < 24; k++) {
            due.same("6: slot", x.slot(2048, -1, -1), k);
        }
        due.same("6: 25th", x.slot(1, 0, 0), -1);
        due.same("6: told(0)", x.told(0), 24);
    }

    private static void clear() {
        ChordGrammars x = new ChordGrammars();
        due.same("7: none", x.clear(), 0);
        Due.grammar(x, "A=1;");
        x.slot(C_MAJOR, 0, 60);
        x.parse();
        x.slot(C_MAJOR, 0, 60);
        due.same("7: two", x.clear(), 2);
        due.same("7: told(0)", x.told(0), 0);
        due.same("7: fit", x.fit(0, 0, 0), -1);
        due.same("7: parse()", x.parse(), -1);
        due.same("7: what is listed stays", x.chord(0, 0), 0);
        due.same("7: the grammar stays", x.told(1), 1);
        due.same("7: the first again", x.slot(C_MAJOR, 0, 60), 0);
    }

    private static void told() {
        ChordGrammars x = new ChordGrammars();
        Due.grammar(x, "A=1;A=A A;A=1M;");
        Due.write(x, "xyz");
        x.slot(C_MAJOR, 0, -1);
        x.parse();
        x.slot(C_MAJOR, 0, -1);
        due.same("19: slots", x.told(0), 2);
        due.same("19: rules", x.told(1), 3);
        due.same("19: octets", x.told(2), 3);
        due.same("19: listed", x.told(3), 2);
        due.same("19: slots when parsed", x.told(4), 1);
        for (int what : new int[] {-1, 5, Integer.MIN_VALUE, Integer.MAX_VALUE}) {
            due.same("19: told(" + what + ")", x.told(what), -1);
        }
    }
}
