/** Promises 8 and 9. */
public final class FitTest {
    private static final Due due = new Due("FitTest");
    private static final int[][] KINDS = {
        {0, 4, 7}, {0, 3, 7}, {0, 3, 6}, {0, 4, 8}, {0, 4, 7, 10}, {0, 4, 7, 11}, {0, 3, 7, 10}, {0, 3, 6, 10}, {0, 3, 6, 9}};

    public static void main(String[] args) {
        everyChordFitsItself();
        costs();
        noFit();
        best();
        bestOfAllSets();
        due.end();
    }

    private static int chord(int root, int kind) {
        int bits = 0;
        for (int c : KINDS[kind]) {
            bits |= 1 << (root + c) % 12;
        }
        return bits;
    }

    private static void everyChordFitsItself() {
        for (int kind = 0; kind < 9; kind++) {
            ChordGrammars x = new ChordGrammars();
            for (int root = 0; root < 12; root++) {
                due.same("8: slot", x.slot(chord(root, kind), root, -1), root);
                due.same("8: itself", x.fit(root, root, kind), 0);
            }
        }
    }

    private static void costs() {
        ChordGrammars x = new ChordGrammars();
        x.slot(Due.set(0, 4, 7), -1, -1);
        x.slot(Due.set(0, 4, 7), 4, -1);
        x.slot(Due.set(0, 4, 7, 9, 2), 9, -1);
        x.slot(Due.set(0, 4), 0, -1);
        x.slot(4095, 1, -1);
        due.same("8: no bass", x.fit(0, 0, 0), 0);
        due.same("8: bass not the root", x.fit(1, 0, 0), 1);
        due.same("8: strangers and a bass that is none", x.fit(2, 0, 0), 4 + 4 + 5);
        due.same("8: the bass is the root", x.fit(2, 9, 1), 4 + 4);
        due.same("8: a minor seventh", x.fit(2, 9, 6), 4);
        due.same("8: missing", x.fit(3, 0, 0), 3);
        due.same("8: two missing", x.fit(3, 0, 4), 6);
        due.same("8: missing, and the bass not the root", x.fit(3, 9, 1), 3 + 1);
        due.same("8: all sounds", x.fit(4, 0, 0), 9 * 4 + 5);
        due.same("8: all sounds, bass of the chord", x.fit(4, 10, 8), 8 * 4 + 1);
        due.same("8: augmented, each root its own", x.fit(0, 4, 3), 4 + 3);
        due.same("8: augmented, each root its own", x.fit(1, 0, 3), 4 + 3 + 1);
        due.same("8: augmented, each root its own", x.fit(1, 4, 3), 4 + 3);
    }

    private static void noFit() {
        ChordGrammars x = new ChordGrammars();
        due.same("8: no slot yet", x.fit(0, 0, 0), -1);
        due.same("9: no slot yet", x.best(0), -1);
        x.slot(Due.set(0, 4, 7), 0, -1);
        due.same("8: one class shared", x.fit(0, 2, 4), -1);
        due.same("8: none shared", x.fit(0, 1, 0), -1);
        for (int wrong : new int[] {-1, 12, Integer.MIN_VALUE, Integer.MAX_VALUE}) {
            due.same("8: slot " + wrong, x.fit(wrong, 0, 0), -1);
            due.same("8: root " + wrong, x.fit(0, wrong, 0), -1);
            due.same("8: kind " + wrong, x.fit(0, 0, wrong), -1);
            due.same("9: slot " + wrong, x.best(wrong), -1);
        }
        due.same("8: kind 9", x.fit(0, 0, 9), -1);
        due.same("8: slot 1", x.fit(1, 0, 0), -1);
        due.same("9: slot 1", x.best(1), -1);
        x.slot(1, 0, -1);
        due.same("9: one class alone", x.best(1), -1);
    }

    private static void best() {
        ChordGrammars x = new ChordGrammars();
        x.slot(Due.set(0, 4, 7), 0, -1);
        x.slot(Due.set(9, 0, 4, 7), -1, -1);
        x.slot(Due.set(9, 0, 4, 7), 0, -1);
        x.slot(Due.set(0, 4, 8), -1, -1);
        x.slot(Due.set(0, 4, 8), 8, -1);
        x.slot(Due.set(1, 4, 7, 10), -1, -1);
        x.slot(Due.set(0, 4), -1, -1);
        x.slot(Due.set(0, 1), -1, -1);
        due.same("9: C", x.best(0), 0);
        due.same("9: An", x.best(1), 12 * 6 + 9);
        due.same("9: An, inverted", x.best(2), 12 * 6 + 9);
        due.same("9: lesser root", x.best(3), 12 * 3);
        due.same("9: root in the bass", x.best(4), 12 * 3 + 8);
        due.same("9: lesser root of o", x.best(5), 12 * 8 + 1);
        due.same("9: lesser kind", x.best(6), 0);
        due.same("9: only j has a semitone", x.best(7), 12 * 5 + 1);
        x.cost(0, 0);
        x.cost(1, 0);
        due.same("9: all alike: the lesser kind, then root", x.best(1), 0);
    }

    private static void bestOfAllSets() {
        ChordGrammars x = null;
        for (int set = 1; set < 4096; set++) {
            // four slots and a fit of each chord to each of them: no more calls than an object is used for
            if (x == null || x.told(0) == 4) {
                x = new ChordGrammars();
                x.cost(0, set % 5);
                x.cost(1, set % 7);
            }
            int bass = set % 13 < 12 && (set >> set % 13 & 1) != 0 ? set % 13 : -1;
            int number = x.slot(set, bass, -1);
            due.same("9: set " + set, x.best(number), plainBest(set, bass, x, number));
        }
    }

    private static int plainBest(int set, int bass, ChordGrammars x, int number) {
        int best = -1;
        int least = 0;
        for (int code = 0; code < 108; code++) {
            int classes = chord(code % 12, code / 12);
            boolean fits = Integer.bitCount(classes & set) >= 2;
            int price = x.fit(number, code % 12, code / 12);
            due.same("8: fits", price >= 0 ? 1 : 0, fits ? 1 : 0);
            if (fits && (best == -1 || price < least)) {
                best = code;
                least = price;
            }
        }
        return best;
    }
}
