import java.util.ArrayList;
import java.util.List;
import java.util.function.Consumer;
import java.util.function.ToLongFunction;

/**
 * "A call that is refused changes nothing.": each refused call is made on one of two twins, and all that can be found
 * out of both is compared. Calls that ask only are among them, as are those that the document refuses in one state.
 */
public final class RefusedTest {
    private static final Due due = new Due("RefusedTest");
    private static final int NONE = ChordGrammars.NONE;
    private static final int MIN = Integer.MIN_VALUE;
    private static final int MAX = Integer.MAX_VALUE;
    private static final int C = Due.set(0, 4, 7);
    private static final int G7 = Due.set(7, 11, 2, 5);

    private record Call(String name, long want, ToLongFunction<Recorder> made) {
    }

    private record State(String name, Consumer<Recorder> made) {
    }

    private static final State FRESH = new State("a new object", x -> { });
    private static final State NO_SLOTS = new State("without slots", x -> x.write("S=1:3;").grammar());
    private static final State NO_GRAMMAR = new State("without a grammar", x -> x.slot(C, 0, 60));
    private static final State IN_USE = new State("in use", RefusedTest::use);
    private static final State CLEARED = new State("cleared behind a parse", x -> {
        use(x);
        x.clear();
    });
    private static final State NOTHING_LISTED = new State("nothing listed", x -> {
        use(x);
        x.slot(Due.set(1), 1, 61);
        x.parse();
    });
    private static final State FULL = new State("full", RefusedTest::fill);
    private static final State[] ALL = {FRESH, NO_SLOTS, NO_GRAMMAR, IN_USE, CLEARED, NOTHING_LISTED, FULL};

    public static void main(String[] args) {
        statesAreAsNamed();
        theRecordShowsEachChange();
        for (State state : ALL) {
            for (Call call : refusedAlways()) {
                changesNothing(state, call);
            }
        }
        parseRefused();
        draftRefusedBehindTheEnd();
        slotRefusedBehindTheLast();
        faultChangesTheDraftAlone();
        due.end();
    }

    /** What is listed differs from what would be listed now, and there is a draft that can be read. */
    private static void use(Recorder x) {
        x.key(0, false);
        x.write("S=AB:2;S=BS;A=1;A=1M:1;B=5;B=5s:1;S=3:9;").grammar();
        x.slot(C, 4, 60);
        x.slot(G7, 7, 62);
        x.slot(C, 0, 64);
        x.slot(G7, 11, 65);
        x.parse();
        x.key(7, true);
        x.cost(0, 2);
        x.cost(3, 9);
        x.slot(Due.set(7, 10, 2, 1), 1, 66);
        x.write("S=1S;S=1;S=5:4;S=3:5;");
    }

    /** 60 rules, 24 slots, 30 listed, 800 octets of draft. */
    private static void fill(Recorder x) {
        x.write("A=AA;" + "A=1;".repeat(59)).grammar();
        for (int k = 0; k < 24; k++) {
            x.slot(C, k % 2 == 0 ? 4 : NONE, 60 + k % 5);
        }
        x.parse();
        x.write("A=1A;A=1:7;" + " ".repeat(789));
    }

    private static List<Call> refusedAlways() {
        List<Call> all = new ArrayList<>();
        settingsRefused(all);
        slotsRefused(all);
        askingRefused(all);
        cellsRefused(all);
        return all;
    }

    private static void settingsRefused(List<Call> all) {
        for (int tonic : new int[] {-1, 12, MIN, MAX}) {
            all.add(new Call("2: key(" + tonic + ", false)", 0, x -> x.key(tonic, false)));
            all.add(new Call("2: key(" + tonic + ", true)", 0, x -> x.key(tonic, true)));
        }
        for (int which : new int[] {-1, 4, MIN, MAX}) {
            all.add(new Call("3: cost(" + which + ", 0)", 0, x -> x.cost(which, 0)));
            all.add(new Call("3: cost(" + which + ", 1000)", 0, x -> x.cost(which, 1000)));
        }
        for (int v : new int[] {-1, 1001, MIN, MAX}) {
            for (int which = 0; which < 4; which++) {
                int each = which;
                all.add(new Call("3: cost(" + which + ", " + v + ")", 0, x -> x.cost(each, v)));
            }
        }
        for (int n : new int[] {-1, 0, 9, MIN, MAX}) {
            all.add(new Call("4: draft(" + n + ", ..)", NONE, x -> x.draft(n, Due.octets("S=1;S=2;"))));
        }
    }

    private static void slotsRefused(List<Call> all) {
        for (int set : new int[] {-1, 0, 4096, MIN, MAX}) {
            all.add(new Call("6: set " + set, NONE, x -> x.slot(set, NONE, 60)));
        }
        for (int bass : new int[] {-2, 12, 32, MIN, MAX}) {
            all.add(new Call("6: bass " + bass, NONE, x -> x.slot(4095, bass, 60)));
        }
        for (int bass = 0; bass < 12; bass++) {
            int each = bass;
            all.add(new Call("6: bass " + bass + ", not in it", NONE, x -> x.slot(4095 & ~(1 << each), each, 60)));
        }
        for (int pitch : new int[] {-2, 128, MIN, MAX}) {
            all.add(new Call("6: melody " + pitch, NONE, x -> x.slot(C, 0, pitch)));
        }
    }

    private static void askingRefused(List<Call> all) {
        for (int wrong : new int[] {-1, 24, MIN, MAX}) {
            all.add(new Call("8: slot " + wrong, NONE, x -> x.fit(wrong, 0, 0)));
            all.add(new Call("9: slot " + wrong, NONE, x -> x.best(wrong)));
            all.add(new Call("15: slot " + wrong, NONE, x -> x.chord(0, wrong)));
            all.add(new Call("17: slot " + wrong, NONE, x -> x.melody(0, wrong)));
        }
        for (int wrong : new int[] {-1, 12, MIN, MAX}) {
            all.add(new Call("8: root " + wrong, NONE, x -> x.fit(0, wrong, 0)));
        }
        for (int wrong : new int[] {-1, 9, MIN, MAX}) {
            all.add(new Call("8: kind " + wrong, NONE, x -> x.fit(0, 0, wrong)));
        }
        for (int wrong : new int[] {-1, 30, MIN, MAX}) {
            all.add(new Call("12: price(" + wrong + ")", NONE, x -> x.price(wrong)));
            all.add(new Call("13: reading " + wrong, NONE, x -> x.node(wrong, 0, 1)));
            all.add(new Call("14: nodes(" + wrong + ")", NONE, x -> x.nodes(wrong)));
            all.add(new Call("15: reading " + wrong, NONE, x -> x.chord(wrong, 0)));
            all.add(new Call("16: cadence(" + wrong + ")", NONE, x -> x.cadence(wrong)));
            all.add(new Call("17: reading " + wrong, NONE, x -> x.melody(wrong, 0)));
        }
        for (int wrong : new int[] {-1, 1246, MIN, MAX}) {
            all.add(new Call("13: node " + wrong, NONE, x -> x.node(0, wrong, 1)));
        }
        for (int wrong : new int[] {-1, 4, MIN, MAX}) {
            all.add(new Call("13: what " + wrong, NONE, x -> x.node(0, 0, wrong)));
        }
        for (int wrong : new int[] {-1, 5, MIN, MAX}) {
            all.add(new Call("19: told(" + wrong + ")", NONE, x -> x.told(wrong)));
        }
    }

    private static void cellsRefused(List<Call> all) {
        int[][] cells = {{-1, 0, 0}, {MIN, 0, 0}, {0, 24, 0}, {0, MAX, 0}, {24, 24, 0}, {1, 0, 0}, {0, -1, 0},
            {MAX, MIN, 0}, {MIN, MAX, 0}, {-1, -1, 0}, {0, 0, -1}, {0, 0, 26}, {0, 0, MIN}, {0, 0, MAX}};
        for (int[] c : cells) {
            String name = "18: cell(" + c[0] + ", " + c[1] + ", " + c[2] + ") throws";
            all.add(new Call(name, 1, x -> x.cellThrows(c[0], c[1], c[2]) ? 1 : 0));
        }
    }

    private static void changesNothing(State state, Call call) {
        Recorder twin = new Recorder();
        state.made().accept(twin);
        List<String> want = twin.everything();
        Recorder x = new Recorder();
        state.made().accept(x);
        due.same(call.name() + ", " + state.name(), call.made().applyAsLong(x), call.want());
        alike(call.name() + " refused, " + state.name(), x.everything(), want);
    }

    private static void alike(String what, List<String> got, List<String> want) {
        due.same(what + ": calls", got.size(), want.size());
        for (int k = 0; k < want.size(); k++) {
            due.yes(what + ": " + got.get(k) + ", due is " + want.get(k), got.get(k).equals(want.get(k)));
        }
    }

    private static void statesAreAsNamed() {
        told(FRESH, 0, 0, 0, 0, 0);
        told(NO_SLOTS, 0, 1, 0, 0, 0);
        told(NO_GRAMMAR, 1, 0, 0, 0, 0);
        told(IN_USE, 5, 7, 21, 10, 4);
        told(CLEARED, 0, 7, 21, 10, 4);
        told(NOTHING_LISTED, 6, 7, 21, 0, 6);
        told(FULL, 24, 60, 800, 30, 24);
    }

    private static void told(State state, int... want) {
        Recorder x = new Recorder();
        state.made().accept(x);
        for (int what = 0; what < 5; what++) {
            due.same("19: told(" + what + "), " + state.name(), x.told(what), want[what]);
        }
    }

    /** Were the record blind for something, nothing would be shown by two that are alike. */
    private static void theRecordShowsEachChange() {
        shown("key", x -> x.key(5, true));
        shown("minor", x -> x.key(7, false));
        for (int which = 0; which < 4; which++) {
            int each = which;
            shown("cost " + which, x -> x.cost(each, 77));
        }
        shown("draft", x -> x.draft(1, 'A'));
        shown("slot", x -> x.slot(C, 0, 60));
        shown("slots", Recorder::clear);
        shown("parse", Recorder::parse);
        shown("grammar", Recorder::grammar);
    }

    private static void shown(String what, Consumer<Recorder> change) {
        Recorder twin = new Recorder();
        use(twin);
        List<String> before = twin.everything();
        Recorder x = new Recorder();
        use(x);
        change.accept(x);
        due.no("the record shows a change of the " + what, x.everything().equals(before));
    }

    private static void parseRefused() {
        Call parse = new Call("10: parse()", NONE, Recorder::parse);
        changesNothing(FRESH, parse);
        changesNothing(NO_SLOTS, parse);
        changesNothing(NO_GRAMMAR, parse);
        changesNothing(CLEARED, parse);
    }

    private static void draftRefusedBehindTheEnd() {
        for (int size = 793; size <= 800; size++) {
            String text = "A=1A;A=1:7;" + " ".repeat(size - 11);
            State state = new State("a draft of " + size, x -> {
                use(x);
                x.grammar();
                x.write(text);
            });
            for (int n = 801 - size; n <= 8; n++) {
                int each = n;
                changesNothing(state, new Call("4: draft(" + n + ", ..)", NONE, x -> x.draft(each, Due.octets("A=1;A=2;"))));
            }
        }
    }

    private static void slotRefusedBehindTheLast() {
        changesNothing(FULL, new Call("6: a 25th slot", NONE, x -> x.slot(C, 0, 60)));
        changesNothing(FULL, new Call("6: the least 25th slot", NONE, x -> x.slot(1, NONE, NONE)));
        changesNothing(FULL, new Call("6: the greatest 25th slot", NONE, x -> x.slot(4095, 11, 127)));
    }

    /** The twin, too, has its draft emptied, by a grammar that is the same one as before. */
    private static void faultChangesTheDraftAlone() {
        String same = "S=AB:2;S=BS;A=1;A=1M:1;B=5;B=5s:1;S=3:9;";
        String[] faults = {"S=1S;S=1;S=5:4;?", "S=2;A=A;", "?", "S=2", "S=2;S=3;".repeat(31), " "};
        for (String fault : faults) {
            Recorder twin = new Recorder();
            use(twin);
            twin.grammar();
            twin.write(same).grammar();
            Recorder x = new Recorder();
            use(x);
            x.grammar();
            x.write(same).grammar();
            due.yes("5: a fault in '" + fault + "'", x.write(fault).grammar() <= -2);
            due.same("5: the draft is empty behind '" + fault + "'", x.told(2), 0);
            alike("5: the fault of '" + fault + "'", x.everything(), twin.everything());
        }
    }
}
