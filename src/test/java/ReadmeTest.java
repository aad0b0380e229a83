import java.io.IOException;
import java.lang.reflect.Method;
import java.lang.reflect.Modifier;
import java.nio.file.Files;
import java.nio.file.Path;
import java.util.ArrayList;
import java.util.Collections;
import java.util.List;

/** That README.md's example is code that runs, and that what it says of each answer is so. */
public final class ReadmeTest {
    private static final Due due = new Due("ReadmeTest");
    private static final String ANSWERS = "// -> ";
    private static final List<Long> said = new ArrayList<>();

    public static void main(String[] args) throws IOException {
        Path root = Path.of(args.length > 0 ? args[0] : ".");
        List<String> told = example(Files.readAllLines(root.resolve("README.md")));
        List<String> here = Files.readAllLines(root.resolve("src/test/java/ReadmeTest.java")).stream().map(String::strip).toList();
        due.yes("README.md has an example", told.size() > 10);
        due.yes("README.md's example stands in this test", Collections.indexOfSubList(here, told) >= 0);
        List<Long> answers = new ArrayList<>();
        for (String line : told) {
            if (line.contains(ANSWERS)) {
                String behind = line.substring(line.indexOf(ANSWERS) + ANSWERS.length());
                answers.add(Long.parseLong(behind.split("[^-0-9]")[0]));
            }
        }
        run();
        due.same("as many answers as README.md tells", said.size(), answers.size());
        for (int k = 0; k < Math.min(said.size(), answers.size()); k++) {
            due.same("README.md's answer " + k, said.get(k), answers.get(k));
        }
        everyCallIsTold(root);
        due.end();
    }

    /** The lines of the first block of Java. */
    private static List<String> example(List<String> readme) {
        List<String> found = new ArrayList<>();
        for (int k = readme.indexOf("```java") + 1; k > 0 && k < readme.size() && !readme.get(k).equals("```"); k++) {
            found.add(readme.get(k).strip());
        }
        return found;
    }

    private static void everyCallIsTold(Path root) throws IOException {
        String readme = Files.readString(root.resolve("README.md"));
        for (Method m : ChordGrammars.class.getDeclaredMethods()) {
            if (Modifier.isPublic(m.getModifiers())) {
                due.yes("README.md tells " + m.getName(), readme.contains("| `" + m.getName() + "("));
            }
        }
    }

    private static void say(long answer) {
        said.add(answer);
    }

    private static void run() {
        // C major, no slots, no grammar
        ChordGrammars x = new ChordGrammars();
        String text = "P=TC;C=DT:1;T=1;T=6:2;D=5;D=5s;";
        for (int from = 0; from < text.length(); from += 8) {
            int n = Math.min(8, text.length() - from);
            long octets = 0;
            for (int k = n - 1; k >= 0; k--) {
                octets = octets << 8 | text.charAt(from + k);    // the first one lowest
            }
            x.draft(n, octets);
        }
        say(x.grammar());                   // -> 6 rules (a fault at place p would be -2 - p)
        int c = 1 << 0 | 1 << 4 | 1 << 7;   // the classes that sound, as bits
        int g = 1 << 7 | 1 << 11 | 1 << 2;
        say(x.slot(c, 0, 67));              // -> 0, the slot's number; its bass is c, its melody g'
        say(x.slot(g, 7, 65));              // -> 1; f' in the melody
        say(x.slot(c, 0, 64));              // -> 2; e' in the melody
        say(x.fit(0, 9, 1));                // -> 8, what a minor costs where c major sounds
        say(x.best(1));                     // -> 7, which is 12 * 0 + 7: g major
        say(x.parse());                     // -> 8 readings are listed (30 at most)
        say(x.readings());                  // -> 8 in all (wrapping)
        say(x.price(0));                    // -> 1, the cost of the rule C=DT; all chords fit at no cost
        say(x.price(1));                    // -> 4, with a seventh that does not sound
        say(x.nodes(0));                    // -> 8: P T 1 C D 5 T 1, a node before its parts
        say(x.node(0, 3, 0));               // -> 1, the rule of node 3: C=DT (rules count from 0)
        say(x.node(0, 3, 1));               // -> 1, its first slot
        say(x.node(0, 3, 2));               // -> 2, its last slot
        say(x.node(0, 5, 3));               // -> 7, the chord of a symbol, as best() tells it
        say(x.chord(1, 1));                 // -> 55, which is 12 * 4 + 7: g with its seventh
        say(x.cadence(0));                  // -> 1: degree 1 behind degree 5
        say(x.melody(0, 1));                // -> 1: f' is passing in g major
        say(x.melody(1, 1));                // -> 0: f' is one of g's with its seventh
        say(x.cell(1, 2, 'C' - 'A'));       // -> 4 readings of C of the slots 1 to 2
        say(x.told(3));                     // -> 8 listed
        say(x.clear());                     // -> 3 slots there were; what is listed stays
    }
}
