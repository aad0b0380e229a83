import java.util.ArrayList;
import java.util.List;

/**
 * An object with a record of every call and its answer, so that two objects can be laid side by side.
 * It makes no more calls than the document lets an object be used for.
 */
final class Recorder {
    static final int MOST_CALLS = 512;
    private static final int[] FIRST_ROWS = {0, 1, 2, 11, 22, 23};

    private final ChordGrammars x = new ChordGrammars();
    private final List<String> record = new ArrayList<>();

    private long keep(String call, long answer) {
        keep(call, String.valueOf(answer));
        return answer;
    }

    private void keep(String call, String answer) {
        if (record.size() == MOST_CALLS) {
            throw new IllegalStateException("this test makes more calls than an object is used for");
        }
        record.add(call + " -> " + answer);
    }

    long key(int tonic, boolean isMinor) {
        return keep("key(" + tonic + ", " + isMinor + ")", x.key(tonic, isMinor) ? 1 : 0);
    }

    long cost(int which, int v) {
        return keep("cost(" + which + ", " + v + ")", x.cost(which, v) ? 1 : 0);
    }

    long draft(int n, long octets) {
        return keep("draft(" + n + ", " + octets + ")", x.draft(n, octets));
    }

    long grammar() {
        return keep("grammar()", x.grammar());
    }

    long slot(int set, int bass, int melody) {
        return keep("slot(" + set + ", " + bass + ", " + melody + ")", x.slot(set, bass, melody));
    }

    long clear() {
        return keep("clear()", x.clear());
    }

    long fit(int slot, int root, int kind) {
        return keep("fit(" + slot + ", " + root + ", " + kind + ")", x.fit(slot, root, kind));
    }

    long best(int slot) {
        return keep("best(" + slot + ")", x.best(slot));
    }

    long parse() {
        return keep("parse()", x.parse());
    }

    long readings() {
        return keep("readings()", x.readings());
    }

    long price(int reading) {
        return keep("price(" + reading + ")", x.price(reading));
    }

    long node(int reading, int i, int what) {
        return keep("node(" + reading + ", " + i + ", " + what + ")", x.node(reading, i, what));
    }

    long nodes(int reading) {
        return keep("nodes(" + reading + ")", x.nodes(reading));
    }

    long chord(int reading, int slot) {
        return keep("chord(" + reading + ", " + slot + ")", x.chord(reading, slot));
    }

    long cadence(int reading) {
        return keep("cadence(" + reading + ")", x.cadence(reading));
    }

    long melody(int reading, int slot) {
        return keep("melody(" + reading + ", " + slot + ")", x.melody(reading, slot));
    }

    /** True when it throws what the document says, and not an exception of a class below or above that. */
    boolean cellThrows(int from, int to, int letter) {
        String answer;
        try {
            answer = String.valueOf(x.cell(from, to, letter));
        } catch (RuntimeException e) {
            answer = e.getClass().getName();
        }
        keep("cell(" + from + ", " + to + ", " + letter + ")", answer);
        return answer.equals("java.lang.ArrayIndexOutOfBoundsException");
    }

    long told(int what) {
        return keep("told(" + what + ")", x.told(what));
    }

    /** Adds a text to the draft, eight octets a call. */
    Recorder write(String text) {
        for (int from = 0; from < text.length(); from += 8) {
            String part = text.substring(from, Math.min(text.length(), from + 8));
            draft(part.length(), Due.octets(part));
        }
        return this;
    }

    int calls() {
        return record.size();
    }

    /** What this one was asked and answered from one call on. */
    List<String> since(int call) {
        return new ArrayList<>(record.subList(call, record.size()));
    }

    /** All that is told of the latest parse, of the least readings and of the last one. */
    List<String> listed() {
        int before = calls();
        told(3);
        told(4);
        readings();
        for (int reading : new int[] {0, 1, 29}) {
            price(reading);
            nodes(reading);
            cadence(reading);
            for (int slot : FIRST_ROWS) {
                chord(reading, slot);
                melody(reading, slot);
            }
        }
        for (int i = 0; i < 7; i++) {
            for (int what = 0; what < 4; what++) {
                node(i % 2, i, what);
            }
        }
        for (int to : FIRST_ROWS) {
            cellThrows(0, to, 0);
            cellThrows(to, to, 18);
        }
        return since(before);
    }

    /** What is told of the slots, the grammar and the draft without a change. */
    List<String> settings() {
        int before = calls();
        for (int what = 0; what < 3; what++) {
            told(what);
        }
        for (int slot : FIRST_ROWS) {
            best(slot);
            fit(slot, 0, 0);
            fit(slot, 7, 4);
        }
        return since(before);
    }

    /** All that can be found out, at last by changes: a parse tells the key and the costs, grammar() the draft. */
    List<String> everything() {
        int before = calls();
        listed();
        settings();
        parse();
        listed();
        grammar();
        told(1);
        slot(145, 4, 62);
        parse();
        listed();
        return since(before);
    }
}
