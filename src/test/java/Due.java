/** What the tests share: it prints each answer that is not as due, and writes texts into drafts. */
final class Due {
    private final String test;
    private int asked = 0;
    private int wrong = 0;

    Due(String test) {
        this.test = test;
    }

    void same(String what, long got, long want) {
        asked++;
        if (got != want) {
            wrong++;
            System.out.println(test + ": " + what + " answered " + got + ", due is " + want);
        }
    }

    void yes(String what, boolean got) {
        same(what, got ? 1 : 0, 1);
    }

    void no(String what, boolean got) {
        same(what, got ? 1 : 0, 0);
    }

    /** The class throws by itself, not the machine: whose own text begins with "Index ". */
    void noCell(String what, ChordGrammars x, int from, int to, int letter) {
        String call = what + ": cell(" + from + ", " + to + ", " + letter + ")";
        RuntimeException thrown = null;
        try {
            x.cell(from, to, letter);
        } catch (RuntimeException e) {
            thrown = e;
        }
        yes(call + " throws, not " + thrown, thrown != null && thrown.getClass() == ArrayIndexOutOfBoundsException.class);
        String text = thrown == null ? null : thrown.getMessage();
        no(call + " throws by the machine: " + text, text != null && text.startsWith("Index "));
    }

    void end() {
        System.out.println(test + ": " + asked + " answers, " + wrong + " wrong");
        if (asked == 0 || wrong != 0) {
            System.exit(1);
        }
    }

    /** Adds a text to the draft, eight octets a call. */
    static int write(ChordGrammars x, String text) {
        int size = x.told(2);
        for (int from = 0; from < text.length(); from += 8) {
            String part = text.substring(from, Math.min(text.length(), from + 8));
            size = x.draft(part.length(), octets(part));
        }
        return size;
    }

    /** Up to eight octets, the first one lowest. */
    static long octets(String text) {
        long octets = 0;
        for (int k = text.length() - 1; k >= 0; k--) {
            octets = octets << 8 | text.charAt(k);
        }
        return octets;
    }

    static int grammar(ChordGrammars x, String text) {
        write(x, text);
        return x.grammar();
    }

    /** The bits of some classes. */
    static int set(int... classes) {
        int bits = 0;
        for (int c : classes) {
            bits |= 1 << c;
        }
        return bits;
    }
}
