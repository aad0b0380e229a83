import java.util.Random;

/** All promises: random runs of calls, each answer beside that of the plain model. The seeds are fixed. */
public final class ModelTest {
    private static final Due due = new Due("ModelTest");
    private static final String KIND_LETTERS = "Mmdasjnho";
    /** An object is used for 512 calls at most; a round that begins needs some for its rules and slots. */
    private static final int MOST_CALLS = 512;
    private static final int CALLS_OF_A_ROUND = 200;

    private final Random random;
    private final ChordGrammars x = new ChordGrammars();
    private final PlainModel model;
    private final int names;
    private final int mostSlots;
    private final int mostRules;
    private final String run;
    private int calls = 0;

    private ModelTest(int seed, int limit, int names, int mostSlots, int mostRules) {
        random = new Random(seed);
        model = new PlainModel(limit);
        this.names = names;
        this.mostSlots = mostSlots;
        this.mostRules = mostRules;
        run = "run " + seed + " of limit " + limit;
    }

    public static void main(String[] args) {
        for (int seed = 0; seed < 2000; seed++) {
            new ModelTest(seed, Integer.MAX_VALUE, 1 + seed % 3, 1 + seed % 5, 1 + seed % 9).play();
        }
        for (int seed = 0; seed < 600; seed++) {
            new ModelTest(seed, 30, 1 + seed % 5, 3 + seed % 7, 3 + seed % 16).play();
        }
        for (int seed = 0; seed < 4; seed++) {
            new ModelTest(seed, 30, 2, 24, 4).play();
        }
        for (int seed = 0; seed < 2000; seed++) {
            new ModelTest(seed, 30, 3, 0, 6).faults();
        }
        due.end();
    }

    private void same(String what, long got, long want) {
        calls++;
        due.same(run + ", call " + calls + ": " + what, got, want);
    }

    private void play() {
        settings();
        for (int round = 0; round < 3 && calls <= MOST_CALLS - CALLS_OF_A_ROUND; round++) {
            rules(random.nextInt(8) == 0);
            for (int k = random.nextInt(6) == 0 ? 0 : 1 + random.nextInt(mostSlots); k > 0; k--) {
                slot();
            }
            ask(5);
            same("parse()", x.parse(), model.parse());
            due.yes(run + ": the model counts what it lists", model.countsAreTrees());
            ask(40);
            settings();
            ask(10);
            if (random.nextBoolean() || model.told(0) >= mostSlots) {
                same("clear()", x.clear(), model.clear());
            }
        }
        due.yes(run + ": " + calls + " calls", calls <= MOST_CALLS);
    }

    private void faults() {
        for (int k = 0; k < 5; k++) {
            rules(true);
        }
    }

    private void settings() {
        int tonic = random.nextInt(14) - 1;
        boolean isMinor = random.nextBoolean();
        same("key", x.key(tonic, isMinor) ? 1 : 0, model.key(tonic, isMinor) ? 1 : 0);
        for (int which = -1; which <= 4; which++) {
            int v = random.nextInt(6) == 0 ? random.nextInt(1100) - 50 : random.nextInt(4);
            if (random.nextInt(3) == 0) {
                same("cost", x.cost(which, v) ? 1 : 0, model.cost(which, v) ? 1 : 0);
            }
        }
    }

    /** Most texts are made so that much can be read by them: each name reads something, and there are few rings. */
    private void rules(boolean isBent) {
        boolean isRich = random.nextInt(5) > 0;
        StringBuilder text = new StringBuilder();
        for (int k = 1 + random.nextInt(mostRules); k > 0; k--) {
            char left = isRich ? (char) ('A' + random.nextInt(names)) : name();
            rule(text, left, isRich);
        }
        for (int k = 0; isRich && k < names; k++) {
            text.append((char) ('A' + k)).append('=').append(1 + random.nextInt(7)).append(';');
        }
        blank(text);
        for (int k = isBent ? 1 + random.nextInt(2) : 0; k > 0; k--) {
            bend(text);
        }
        write(text.toString());
        same("grammar() of '" + text + "'", x.grammar(), model.grammar());
    }

    private void rule(StringBuilder text, char left, boolean isRich) {
        blank(text).append(left);
        blank(text).append('=');
        blank(text);
        boolean hasTwo = random.nextInt(5) < 3;
        if (isRich && !hasTwo && left < 'A' + names - 1 && random.nextBoolean()) {
            text.append((char) (left + 1 + random.nextInt('A' + names - 1 - left)));
        } else if (isRich && !hasTwo) {
            symbol(text);
        } else {
            item(text);
        }
        if (hasTwo) {
            item(blank(text));
        }
        if (random.nextInt(3) == 0) {
            blank(text).append(':');
            blank(text).append(random.nextInt(random.nextInt(5) == 0 ? 1000 : 4));
        }
        blank(text).append(';');
    }

    private StringBuilder blank(StringBuilder text) {
        return random.nextInt(6) == 0 ? text.append(' ') : text;
    }

    private char name() {
        return random.nextInt(25) == 0 ? 'M' : (char) ('A' + random.nextInt(names));
    }

    private void item(StringBuilder text) {
        if (random.nextInt(5) < 3) {
            text.append(name());
        } else {
            symbol(text);
        }
    }

    private void symbol(StringBuilder text) {
        text.append((char) ('1' + random.nextInt(7)));
        if (random.nextInt(4) == 0) {
            text.append(KIND_LETTERS.charAt(random.nextInt(9)));
        }
    }

    private void bend(StringBuilder text) {
        int place = random.nextInt(text.length());
        String octets = " =:;AM19mosd0x\u00ff";
        switch (random.nextInt(4)) {
            case 0 -> text.deleteCharAt(place);
            case 1 -> text.insert(place, octets.charAt(random.nextInt(octets.length())));
            case 2 -> text.setCharAt(place, octets.charAt(random.nextInt(octets.length())));
            default -> text.setLength(place);
        }
        if (text.length() == 0) {
            text.append(' ');
        }
    }

    private void write(String text) {
        int from = 0;
        while (from < text.length()) {
            int n = Math.min(1 + random.nextInt(8), text.length() - from);
            long octets = random.nextLong() << 32 << random.nextInt(32);
            octets = n == 8 ? 0 : octets >>> 8 * n << 8 * n;
            for (int k = 0; k < n; k++) {
                octets |= (long) text.charAt(from + k) << 8 * k;
            }
            same("draft", x.draft(n, octets), model.draft(n, octets));
            from += n;
        }
    }

    private void slot() {
        if (model.told(0) >= mostSlots) {
            return;
        }
        int set = random.nextInt(4096);
        set |= random.nextInt(3) == 0 ? 0 : random.nextInt(4096) | random.nextInt(4096);
        int bass = random.nextInt(13) - 1;
        set |= bass >= 0 && random.nextInt(8) > 0 ? 1 << bass : 0;
        int pitch = random.nextInt(8) == 0 ? -1 : random.nextInt(20) == 0 ? random.nextInt(140) - 5 : 58 + random.nextInt(9);
        same("slot", x.slot(set, bass, pitch), model.slot(set, bass, pitch));
    }

    private int about(int n) {
        return random.nextInt(n + 2) - 1;
    }

    private void ask(int times) {
        for (int k = 0; k < times && calls < MOST_CALLS - CALLS_OF_A_ROUND / 4; k++) {
            int reading = about(model.told(3));
            int slot = about(Math.max(model.told(0), model.told(4)));
            int root = about(12);
            int kind = about(9);
            switch (random.nextInt(12)) {
                case 0 -> same("fit", x.fit(slot, root, kind), model.fit(slot, root, kind));
                case 1 -> same("best", x.best(slot), model.best(slot));
                case 2 -> same("readings", x.readings(), model.readings());
                case 3 -> same("price " + reading, x.price(reading), model.price(reading));
                case 4 -> same("nodes " + reading, x.nodes(reading), model.nodes(reading));
                case 5 -> same("chord " + reading + " " + slot, x.chord(reading, slot), model.chord(reading, slot));
                case 6 -> same("cadence " + reading, x.cadence(reading), model.cadence(reading));
                case 7 -> same("melody " + reading + " " + slot, x.melody(reading, slot), model.melody(reading, slot));
                case 8 -> cell(about(model.told(4)), about(model.told(4)), about(names));
                case 9 -> same("told", x.told(kind), model.told(kind));
                default -> tree(reading);
            }
        }
    }

    private void tree(int reading) {
        for (int i = -1; i <= Math.max(0, model.nodes(reading)) && calls < MOST_CALLS - CALLS_OF_A_ROUND / 4; i++) {
            int what = about(4);
            String call = "node(" + reading + ", " + i + ", " + what + ")";
            same(call, x.node(reading, i, what), model.node(reading, i, what));
        }
    }

    private void cell(int from, int to, int letter) {
        if (model.hasCell(from, to, letter)) {
            same("cell(" + from + ", " + to + ", " + letter + ")", x.cell(from, to, letter), model.cell(from, to, letter));
        } else {
            calls++;
            due.noCell(run, x, from, to, letter);
        }
    }
}
