import java.lang.management.ManagementFactory;

/** The largest inputs that the document lets in, counts that wrap, and the room that an object takes. */
public final class LimitsTest {
    private static final Due due = new Due("LimitsTest");
    private static final int C = Due.set(0, 4, 7);
    /** One run's room: 7.3 million fields and elements, none of more than 8 octets. */
    private static final long ROOM_OCTETS = 7_300_000L * 8;

    public static void main(String[] args) {
        largestTree();
        deepTrees();
        wrappedCounts();
        countsThatWrapToNothing();
        greatestCost();
        allRulesAtOnce();
        room();
        due.end();
    }

    private static ChordGrammars full(String text, int set) {
        ChordGrammars x = new ChordGrammars();
        due.yes("5: '" + text + "'", Due.grammar(x, text) > 0);
        for (int k = 0; k < 24; k++) {
            x.slot(set, -1, -1);
        }
        return x;
    }

    private static String chainOfNames(String cost) {
        StringBuilder text = new StringBuilder();
        for (char c = 'A'; c < 'Z'; c++) {
            text.append(c).append('=').append((char) (c + 1)).append(cost).append(';');
        }
        return text.toString();
    }

    private static void largestTree() {
        ChordGrammars x = full(chainOfNames("") + "Z=1;Z=AA;", C);
        due.same("10: parse()", x.parse(), 30);
        for (int reading = 0; reading < 30; reading++) {
            due.same("14: all names at each place", x.nodes(reading), 24 * 27 + 23 * 26);
        }
        due.same("13: the first node's last slot", x.node(0, 0, 2), 23);
        due.same("13: the last node", x.node(29, 1245, 1), 23);
        due.same("13: the last node's chord", x.node(29, 1245, 3), 0);
        due.same("13: no more", x.node(29, 1246, 1), -1);
        due.same("18: Catalan", x.cell(0, 23, 0), 343059613650L);
        due.same("11: Catalan", x.readings(), 343059613650L);
    }

    private static void deepTrees() {
        ChordGrammars left = full("A=A1;A=1;", C);
        due.same("10: to the left", left.parse(), 1);
        due.same("14: to the left", left.nodes(0), 48);
        due.same("13: to the left", left.node(0, 23, 2), 0);
        due.same("13: to the left", left.node(0, 47, 1), 23);
        ChordGrammars right = full("A=1A;A=1;", C);
        due.same("10: to the right", right.parse(), 1);
        due.same("14: to the right", right.nodes(0), 48);
        due.same("13: to the right", right.node(0, 46, 1), 23);
        due.same("15: to the right", right.chord(0, 23), 0);
    }

    private static void wrappedCounts() {
        ChordGrammars x = full("A=AA;A=1;A=1;A=1;", C);
        due.same("10: parse()", x.parse(), 30);
        long count = 343059613650L;
        for (int k = 0; k < 24; k++) {
            count *= 3;
        }
        due.same("11: wrapping", x.readings(), count);
        due.same("18: wrapping", x.cell(0, 23, 0), count);
    }

    private static void countsThatWrapToNothing() {
        ChordGrammars x = full("B=A;A=AA;" + "A=1;".repeat(8), C);
        due.same("10: there are readings", x.parse(), 30);
        due.same("11: their count is 2 to the 72nd, and more", x.readings(), 0);
        due.same("18: as are the parts'", x.cell(0, 22, 0), 0);
        due.same("12: the first one", x.price(0), 0);
        due.same("14: the first one", x.nodes(0), 48 + 23 + 1);
        due.same("19: listed", x.told(3), 30);
        x.clear();
        Due.grammar(x, "S=AB;B=5s;A=AA;" + "A=1M;".repeat(8));
        for (int k = 0; k < 24; k++) {
            x.slot(k < 23 ? C : Due.set(7, 11, 2, 5), -1, -1);
        }
        due.same("10: a first part with a count of 0 is read", x.parse(), 30);
        due.same("18: its count", x.cell(0, 22, 0), 0);
        Due.grammar(x, "S=BA;B=5s;A=AA;" + "A=1M;".repeat(8));
        x.clear();
        for (int k = 0; k < 24; k++) {
            x.slot(k > 0 ? C : Due.set(7, 11, 2, 5), -1, -1);
        }
        due.same("10: a second part with a count of 0 is read", x.parse(), 30);
        due.same("18: its count", x.cell(1, 23, 0), 0);
    }

    private static void greatestCost() {
        ChordGrammars x = new ChordGrammars();
        Due.grammar(x, chainOfNames(":999") + "Z=1M:999;Z=AA:999;");
        for (int which = 0; which < 4; which++) {
            x.cost(which, 1000);
        }
        for (int k = 0; k < 24; k++) {
            x.slot(4095, 1, -1);
        }
        due.same("8: a slot's", x.fit(0, 0, 0), 10000);
        due.same("10: parse()", x.parse(), 30);
        due.same("12: all together", x.price(29), 24 * 10000 + (1246 - 24) * 999);
    }

    private static void allRulesAtOnce() {
        StringBuilder text = new StringBuilder();
        for (int k = 0; k < 52; k++) {
            char c = (char) ('A' + k % 26);
            text.append(c).append('=').append((char) ('A' + (k * 7 + 3) % 26)).append((char) ('A' + (k * 5 + 1) % 26)).append(";");
        }
        for (int k = 0; k < 8; k++) {
            text.append((char) ('A' + k * 3)).append("=1:").append(k).append(';');
        }
        ChordGrammars x = full(text.toString(), C);
        due.same("19: rules", x.told(1), 60);
        int first = x.parse();
        for (int k = 0; k < 50; k++) {
            due.same("10: the same again", x.parse(), first);
        }
    }

    /** All that a run makes counts, also what is no more used: so what was ever made is measured, not what is kept. */
    private static void room() {
        com.sun.management.ThreadMXBean bean = (com.sun.management.ThreadMXBean) ManagementFactory.getThreadMXBean();
        long thread = Thread.currentThread().getId();
        long before = bean.getThreadAllocatedBytes(thread);
        ChordGrammars x = full("A=AA;A=1;A=5:3;A=B;B=1B:2;B=6;", 4095);
        int sum = 0;
        for (int k = 0; k < 230; k++) {
            sum += x.parse() + x.nodes(k % 30);
        }
        long made = bean.getThreadAllocatedBytes(thread) - before;
        due.yes("parses fit into one room: " + made + " octets (" + sum + ")", made < ROOM_OCTETS);
        before = bean.getThreadAllocatedBytes(thread);
        x = new ChordGrammars();
        for (int k = 0; k < 18; k++) {
            sum += allCalls(x);
        }
        made = bean.getThreadAllocatedBytes(thread) - before;
        due.yes("all calls fit into one room: " + made + " octets (" + sum + ")", made < ROOM_OCTETS);
    }

    private static int allCalls(ChordGrammars x) {
        int sum = x.key(2, true) && x.cost(1, 2) ? 1 : 0;
        sum += x.draft(8, 0x3B413D413B313D41L) + x.grammar() + x.draft(4, 0x3B313D41L) + x.draft(5, 0x3B41413D41L) + x.grammar();
        sum += x.clear() + x.slot(C, 0, 62) + x.slot(4095, -1, 60) + x.slot(4095, -1, 61) + x.fit(0, 0, 0) + x.best(1);
        sum += x.parse() + x.price(0) + x.nodes(0) + x.node(0, 3, 2) + x.chord(0, 1) + x.cadence(0) + x.melody(0, 1);
        return sum + (int) (x.readings() + x.cell(0, 1, 0)) + x.told(3);
    }
}
