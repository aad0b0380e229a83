/** Promise 5. */
public final class GrammarTest {
    private static final Due due = new Due("GrammarTest");

    public static void main(String[] args) {
        wellFormed();
        kindLetters();
        faults();
        rings();
        limits();
        faultLeavesGrammar();
        due.end();
    }

    private static void is(String text, int want) {
        ChordGrammars x = new ChordGrammars();
        due.same("5: '" + text + "'", Due.grammar(x, text), want);
        due.same("5: the draft is empty behind '" + text + "'", x.told(2), 0);
        due.same("5: told(1) behind '" + text + "'", x.told(1), Math.max(0, want));
    }

    private static void fault(String text, int place) {
        is(text, -2 - place);
    }

    private static void wellFormed() {
        is("A=1;", 1);
        is("A=12;", 1);
        is("A=1 2;", 1);
        is("A=1M2m;", 1);
        is("A=B;", 1);
        is("A=BC;", 1);
        is("A=B5s:7;", 1);
        is("A=5sB:999;B=1:0;", 2);
        is("  A  =  B  7h  :  007  ;  Z = Z Z ;  ", 2);
        is("A=1MM;", 1);
        is("A=1 M;", 1);
        is("M=M1;", 1);
        is("A=A A;", 1);
    }

    private static void kindLetters() {
        for (int octet = 1; octet < 256; octet++) {
            char c = (char) octet;
            boolean isKind = "Mmdasjnho".indexOf(c) >= 0;
            boolean isItem = c >= 'A' && c <= 'Z' || c >= '1' && c <= '7';
            boolean standsFirst = isKind || isItem || c == ' ' || c == ';';
            String text = "A=1" + c + ";";
            if (c == ';') {
                fault(text, 4);
            } else if (standsFirst) {
                is(text, 1);
            } else {
                fault(text, c == ':' ? 4 : 3);
            }
        }
        ChordGrammars x = new ChordGrammars();
        due.same("5: letters", Due.grammar(x, "A=1M;A=1m;A=1d;A=1a;A=1s;A=1j;A=1n;A=1h;A=1o;"), 9);
        x.cost(0, 0);
        x.cost(1, 0);
        x.slot(4095, -1, -1);
        x.parse();
        for (int kind = 0; kind < 9; kind++) {
            due.same("5: a letter's kind", x.chord(kind, 0), 12 * kind);
        }
    }

    private static void faults() {
        fault("", 0);
        fault("   ", 3);
        fault("A", 1);
        fault("A=", 2);
        fault("A=1", 3);
        fault("A=1:", 4);
        fault("A=1:1", 5);
        fault("A=1:1 ", 6);
        fault("A=1;B", 5);
        fault("a=1;", 0);
        fault("1=1;", 0);
        fault("=1;", 0);
        fault(";", 0);
        fault("\tA=1;", 0);
        fault("A=1;\n", 4);
        fault("A:1;", 1);
        fault("AB=1;", 1);
        fault("A==1;", 2);
        fault("A=;", 2);
        fault("A=0;", 2);
        fault("A=8;", 2);
        fault("A=9;", 2);
        fault("A=m;", 2);
        fault("A=1 m;", 4);
        fault("A=1mm;", 4);
        fault("A=1x;", 3);
        fault("A=123;", 4);
        fault("A=1MMM;", 5);
        fault("A=BCD;", 4);
        fault("A=B m;", 4);
        fault("A=Bm;", 3);
        fault("A=1 2 m;", 6);
        fault("A=1:;", 4);
        fault("A=1:-1;", 4);
        fault("A=1:1234;", 7);
        fault("A=1:1 2;", 6);
        fault("A=1:1:2;", 5);
        fault("A=1:2B;", 5);
        fault("A=1;;", 4);
        fault("A=1;B=2;C=x;", 10);
        fault("A=1\u0000;", 3);
        fault("A=1\u00b1;", 3);
    }

    private static void rings() {
        fault("A=A;", 0);
        fault("  A = A : 3 ;", 2);
        fault("B=1; A=A;", 5);
        fault("A=B;B=A;", 0);
        fault("A=B;B=C;C=B;", 4);
        fault("A=1;A=B;B=C;C=D;D=B;", 8);
        fault("A=B;B=1;B=C;C=A;", 0);
        fault("A=B;B=1;C=A;B=D;D=C;", 0);
        fault("Z=A;C=B;B=A;A=1;A=C;", 4);
        fault("A=A;x", 4);
        is("A=B;B=C;C=1;", 3);
        is("A=B;B=C B;C=A A;", 3);
        is("A=B;A=C;B=D;C=D;D=1;", 5);
        is("A=B B;B=A;", 2);
        String chain = chainOfNames();
        is(chain + "Z=1;", 26);
        fault(chain + "Z=A;", 0);
        fault(chain + "Z=Y;", 4 * 24);
    }

    private static String chainOfNames() {
        StringBuilder text = new StringBuilder();
        for (char c = 'A'; c < 'Z'; c++) {
            text.append(c).append('=').append((char) (c + 1)).append(';');
        }
        return text.toString();
    }

    private static void limits() {
        String sixty = "A=1;".repeat(60);
        is(sixty, 60);
        is(sixty + "   ", 60);
        fault(sixty + "A=1;", 240);
        fault(sixty + "  A=1;", 242);
        fault(sixty + "A", 240);
        fault(sixty + " ?", 241);
        fault(sixty + "B=B;", 240);
        is("A = 1 5 :12;".repeat(60), 60);
        is("A=1;" + " ".repeat(796), 1);
        fault(" ".repeat(800), 800);
        fault("A=1" + " ".repeat(797), 800);
    }

    private static void faultLeavesGrammar() {
        ChordGrammars x = new ChordGrammars();
        due.same("5: first", Due.grammar(x, "A=1;A=2;"), 2);
        due.same("5: fault", Due.grammar(x, "B=3;C"), -7);
        due.same("5: ring", Due.grammar(x, "B=3;C=C;"), -6);
        due.same("5: rules stay", x.told(1), 2);
        x.slot(Due.set(2, 5, 9), 2, -1);
        due.same("5: the grammar stays", x.parse(), 1);
        due.same("5: its second rule", x.node(0, 0, 0), 1);
        due.same("5: an empty draft", x.grammar(), -2);
        due.same("5: rules stay", x.told(1), 2);
        due.same("5: another", Due.grammar(x, "B=3;"), 1);
        due.same("5: its rules", x.told(1), 1);
    }
}
