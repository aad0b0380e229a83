import java.io.IOException;
import java.nio.file.Files;
import java.nio.file.Path;
import java.util.List;
import java.util.Set;
import java.util.TreeSet;
import java.util.regex.Matcher;
import java.util.regex.Pattern;

/** Those rules of LANGUAGE.md that can be seen in the text of the class; each check names its rule. */
public final class LanguageTest {
    private static final Due due = new Due("LanguageTest");
    /** Rule 4, as far as the class needs it; more of that rule's list may be added here. */
    private static final Set<String> LIBRARY = Set.of(
        "Integer.bitCount", "Integer.MAX_VALUE", "Math.min", "System.arraycopy", "KIND_LETTERS.indexOf");
    private static final int MOST_LINES = 60;

    public static void main(String[] args) throws IOException {
        Path root = Path.of(args.length > 0 ? args[0] : ".");
        String whole = Files.readString(root.resolve("src/main/java/ChordGrammars.java"));
        String code = withoutCommentsAndTexts(whole);
        List<String> lines = code.lines().toList();
        due.yes("the text is there", lines.size() > 100);
        due.yes("3: characters 0 to 127 alone", whole.chars().allMatch(c -> c < 128));
        words(code);
        exceptions(code);
        library(code);
        staticFields(lines);
        madeWithTheObject(lines);
        lengths(lines);
        due.end();
    }

    private static String withoutCommentsAndTexts(String text) {
        return text.replaceAll("(?s)/\\*.*?\\*/", "").replaceAll("//[^\n]*", "").replaceAll("\"[^\"\n]*\"", "\"\"");
    }

    private static void words(String code) {
        String[] out = {"import", "package", "try", "catch", "finally", "synchronized", "assert", "instanceof", "protected",
            "volatile", "transient", "native", "double", "float", "Object", "Thread", "var"};
        for (String word : out) {
            due.no("not needed, or against a rule: " + word, Pattern.compile("\\b" + word + "\\b").matcher(code).find());
        }
        due.no("2: no lambda", code.contains("->"));
        due.no("2: no method reference", code.contains("::"));
        due.no("4: none whose name ends in Exact", code.contains("Exact("));
        due.no("5: no static initialiser block", Pattern.compile("\\bstatic\\s*\\{").matcher(code).find());
        due.no("3: arrays of one dimension", code.contains("[][]"));
    }

    private static void exceptions(String code) {
        Matcher m = Pattern.compile("\\bthrow\\b[^;]*;").matcher(code);
        int throwing = 0;
        while (m.find()) {
            throwing++;
            due.yes("6, and promise 18: " + m.group(), m.group().equals("throw new ArrayIndexOutOfBoundsException(\"\");"));
        }
        due.same("6: cell() alone throws", throwing, 1);
    }

    private static void library(String code) {
        TreeSet<String> used = new TreeSet<>();
        Matcher m = Pattern.compile("\\b([A-Z]\\w*)\\.(\\w+)").matcher(code);
        while (m.find()) {
            if (!m.group(1).equals("Chart")) {
                used.add(m.group());
            }
        }
        for (String name : used) {
            due.yes("4: " + name, LIBRARY.contains(name));
        }
    }

    private static void staticFields(List<String> lines) {
        for (String line : lines) {
            if (line.matches("\\s*(private|public) static .*[=;].*") && !line.contains("(")) {
                due.yes("5: final: " + line, line.contains(" static final "));
                due.yes("5: of a type that is let in: " + line, line.matches(".* static final (int|int\\[\\]|String) .*"));
            }
        }
    }

    /** All calls of one run live in one room, so no call makes an object or an array. */
    private static void madeWithTheObject(List<String> lines) {
        for (String line : lines) {
            if (line.matches(".*\\bnew\\b.*") && !line.contains("throw ")) {
                due.yes("12: made with its object: " + line, line.matches("\\s*private final \\S+ \\w+ = new [^;]*;"));
            }
        }
    }

    private static void lengths(List<String> lines) {
        int from = 0;
        int methods = 0;
        for (int k = 0; k < lines.size(); k++) {
            String line = lines.get(k);
            if (line.matches("\\s*(private|public) [^=;]*\\([^;]*\\)[^;]*\\{")) {
                from = k;
                methods++;
                due.yes("11: at most seven parameters: " + line, line.chars().filter(c -> c == ',').count() < 7);
            }
            if (methods > 0 && line.equals(indent(lines.get(from)) + "}")) {
                due.yes("11: some sixty lines: " + lines.get(from), k - from < MOST_LINES);
            }
        }
        due.yes("methods were seen", methods > 50);
    }

    private static String indent(String line) {
        return line.substring(0, line.length() - line.stripLeading().length());
    }
}
