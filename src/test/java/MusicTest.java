/** Promises 16 and 17. */
public final class MusicTest {
    private static final Due due = new Due("MusicTest");
    private static final int NONE = ChordGrammars.NONE;

    public static void main(String[] args) {
        cadences();
        cadenceOfOne();
        cadenceOfThree();
        chordNotes();
        strangers();
        withoutNeighbours();
        noPitch();
        due.end();
    }

    private static void cadences() {
        for (int before = 1; before <= 7; before++) {
            for (int last = 1; last <= 7; last++) {
                ChordGrammars x = new ChordGrammars();
                x.key(before + last - 2, last % 2 == 0);
                Due.grammar(x, "A=" + before + "M" + last + "m;");
                x.slot(4095, -1, -1);
                x.slot(4095, -1, -1);
                due.same("10: parse()", x.parse(), 1);
                int want = switch (10 * before + last) {
                    case 51 -> 1;
                    case 41 -> 2;
                    case 15, 25, 35, 45, 55, 65, 75 -> 3;
                    case 56 -> 4;
                    default -> 0;
                };
                due.same("16: " + last + " behind " + before, x.cadence(0), want);
            }
        }
    }

    private static void cadenceOfOne() {
        for (int degree = 1; degree <= 7; degree++) {
            ChordGrammars x = new ChordGrammars();
            Due.grammar(x, "A=" + degree + ";");
            x.slot(4095, -1, -1);
            due.same("10: parse()", x.parse(), 1);
            due.same("16: " + degree + " alone", x.cadence(0), degree == 5 ? 3 : 0);
        }
    }

    private static void cadenceOfThree() {
        ChordGrammars x = new ChordGrammars();
        Due.grammar(x, "A=BC;B=45;C=1;C=6:1;C=5:2;C=2:3;");
        for (int k = 0; k < 3; k++) {
            x.slot(4095, -1, -1);
        }
        due.same("10: parse()", x.parse(), 4);
        due.same("16: 5 1", x.cadence(0), 1);
        due.same("16: 5 6", x.cadence(1), 4);
        due.same("16: 5 5", x.cadence(2), 3);
        due.same("16: 5 2", x.cadence(3), 0);
        due.same("16: none such", x.cadence(4), NONE);
    }

    private static void chordNotes() {
        for (int kind = 0; kind < 9; kind++) {
            ChordGrammars x = new ChordGrammars();
            x.key(11, false);
            Due.grammar(x, "A=1" + "Mmdasjnho".charAt(kind) + "B;A=1" + "Mmdasjnho".charAt(kind) + ";B=A;");
            int[] classes = {0, 4, 7};
            int[][] all = {classes, {0, 3, 7}, {0, 3, 6}, {0, 4, 8}, {0, 4, 7, 10}, {0, 4, 7, 11}, {0, 3, 7, 10}, {0, 3, 6, 10}, {0, 3, 6, 9}};
            for (int pitch = 60; pitch < 84; pitch++) {
                x.slot(4095, -1, pitch);
            }
            due.same("10: parse()", x.parse(), 1);
            for (int k = 0; k < 24; k++) {
                boolean isIn = false;
                for (int c : all[kind]) {
                    isIn |= (60 + k - 11 - c) % 12 == 0;
                }
                due.same("17: kind " + kind + ", pitch " + (60 + k), x.melody(0, k), isIn ? 0 : k == 23 || k == 0 ? 7 : 1);
            }
        }
    }

    private static void three(int before, int pitch, int behind, int want) {
        ChordGrammars x = new ChordGrammars();
        Due.grammar(x, "A=1B;B=11;");
        x.slot(Due.set(0, 4, 7), 0, before);
        x.slot(Due.set(0, 4, 7), 0, pitch);
        x.slot(Due.set(0, 4, 7), 0, behind);
        due.same("10: parse()", x.parse(), 1);
        due.same("17: " + before + " " + pitch + " " + behind, x.melody(0, 1), want);
    }

    private static void strangers() {
        three(60, 62, 64, 1);
        three(64, 62, 60, 1);
        three(61, 62, 64, 1);
        three(61, 62, 63, 1);
        three(60, 62, 65, 7);
        three(59, 62, 64, 7);
        three(60, 62, 60, 2);
        three(64, 62, 64, 2);
        three(61, 62, 61, 2);
        three(63, 62, 63, 2);
        three(60, 62, 61, 7);
        three(61, 62, 60, 7);
        three(62, 62, 60, 3);
        three(62, 62, 61, 3);
        three(62, 62, 64, 7);
        three(62, 62, 59, 7);
        three(62, 62, 62, 4);
        three(60, 62, 62, 4);
        three(40, 62, 62, 4);
        three(59, 62, 60, 5);
        three(0, 62, 61, 5);
        three(65, 62, 64, 5);
        three(127, 62, 63, 5);
        three(59, 62, 63, 7);
        three(65, 62, 60, 7);
        three(60, 62, 59, 6);
        three(61, 62, 0, 6);
        three(64, 62, 65, 6);
        three(63, 62, 127, 6);
        three(64, 62, 59, 7);
        three(59, 62, 59, 7);
        three(59, 62, 65, 7);
        three(59, 60, 61, 0);
        three(60, 60, 60, 0);
    }

    private static void withoutNeighbours() {
        three(NONE, 62, 64, 7);
        three(NONE, 62, 62, 4);
        three(60, 62, NONE, 7);
        three(62, 62, NONE, 7);
        three(NONE, 62, NONE, 7);
        three(NONE, 64, NONE, 0);
        ChordGrammars x = new ChordGrammars();
        Due.grammar(x, "A=11;A=1:9;");
        x.slot(Due.set(0, 4, 7), 0, 62);
        due.same("10: parse()", x.parse(), 1);
        due.same("17: alone", x.melody(0, 0), 7);
        x.slot(Due.set(0, 4, 7), 0, 62);
        due.same("17: still alone", x.melody(0, 0), 7);
        due.same("10: parse()", x.parse(), 1);
        due.same("17: the first", x.melody(0, 0), 4);
        due.same("17: the last", x.melody(0, 1), 7);
        due.same("17: no such slot", x.melody(0, 2), NONE);
        due.same("17: no such slot", x.melody(0, -1), NONE);
        due.same("17: no such slot", x.melody(0, Integer.MIN_VALUE), NONE);
        due.same("17: no such slot", x.melody(0, Integer.MAX_VALUE), NONE);
        due.same("17: no such reading", x.melody(1, 0), NONE);
        due.same("17: no such reading", x.melody(-1, 0), NONE);
    }

    private static void noPitch() {
        three(60, NONE, 64, NONE);
        three(60, 0, 64, 0);
        three(60, 1, 64, 7);
    }
}
