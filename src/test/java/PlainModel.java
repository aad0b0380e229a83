import java.math.BigInteger;
import java.util.ArrayList;
import java.util.Arrays;
import java.util.HashMap;
import java.util.List;
import java.util.Map;
import java.util.regex.Matcher;
import java.util.regex.Pattern;

/**
 * The document once more, as plainly as can be: whole trees, sorted by the words of the order.
 * Lists of trees are cut at a limit, which tests of small inputs set so high that nothing is cut.
 */
final class PlainModel {
    record Rule(int left, String one, String two, int cost, int place) {
    }

    record Tree(int rule, int from, int to, int cost, int chord, int degree, Tree one, Tree two) {
    }

    record Slot(int set, int bass, int pitch) {
    }

    private static final String LETTERS = "Mmdasjnho";
    private static final int[][] KINDS = {
        {0, 4, 7}, {0, 3, 7}, {0, 3, 6}, {0, 4, 8}, {0, 4, 7, 10}, {0, 4, 7, 11}, {0, 3, 7, 10}, {0, 3, 6, 10}, {0, 3, 6, 9}};
    private static final int[][] SCALES = {{0, 2, 4, 5, 7, 9, 11}, {0, 2, 3, 5, 7, 8, 10}};
    private static final String ITEM = "(?:[A-Z]|[1-7][Mmdasjnho]?+)";
    private static final Pattern RULE = Pattern.compile(
        " *([A-Z]) *= *(" + ITEM + ") *(?:(" + ITEM + ") *)?(?:: *([0-9]{1,3}) *)?;");
    private static final Pattern TEXT = Pattern.compile("(?:" + RULE.pattern() + ")+ *");

    private final int limit;
    private int tonic = 0;
    private boolean isMinor = false;
    private final int[] costs = {4, 3, 1, 5};
    private final StringBuilder draft = new StringBuilder();
    private List<Rule> rules = List.of();
    private final List<Slot> slots = new ArrayList<>();

    private List<Rule> oldRules = List.of();
    private List<Slot> oldSlots = List.of();
    private List<Tree> listed = List.of();
    private final Map<String, List<Tree>> trees = new HashMap<>();
    private final Map<String, BigInteger> counts = new HashMap<>();

    PlainModel(int limit) {
        this.limit = limit;
    }

    boolean key(int newTonic, boolean newMinor) {
        if (newTonic < 0 || newTonic > 11) {
            return false;
        }
        tonic = newTonic;
        isMinor = newMinor;
        return true;
    }

    boolean cost(int which, int v) {
        if (which < 0 || which > 3 || v < 0 || v > 1000) {
            return false;
        }
        costs[which] = v;
        return true;
    }

    int draft(int n, long octets) {
        if (n < 1 || n > 8 || draft.length() + n > 800) {
            return -1;
        }
        for (int k = 0; k < n; k++) {
            draft.append((char) (octets >> 8 * k & 255));
        }
        return draft.length();
    }

    int grammar() {
        String text = draft.toString();
        draft.setLength(0);
        for (int size = 0; size <= text.length(); size++) {
            Matcher m = TEXT.matcher(text.substring(0, size));
            boolean isWhole = m.matches();
            if (!isWhole && (!m.hitEnd() || size == text.length())) {
                return -2 - (m.hitEnd() ? size : size - 1);
            }
        }
        List<Rule> found = new ArrayList<>();
        Matcher m = RULE.matcher(text);
        while (m.find()) {
            int cost = m.group(4) == null ? 0 : Integer.parseInt(m.group(4));
            found.add(new Rule(m.group(1).charAt(0) - 'A', m.group(2), m.group(3), cost, m.start(1)));
        }
        if (found.size() > 60) {
            return -2 - found.get(60).place();
        }
        for (Rule rule : found) {
            if (isUnit(rule) && leads(found, rule.one().charAt(0) - 'A', rule.left(), 0)) {
                return -2 - rule.place();
            }
        }
        rules = found;
        return found.size();
    }

    private static boolean isUnit(Rule rule) {
        return rule.two() == null && Character.isUpperCase(rule.one().charAt(0));
    }

    private static boolean leads(List<Rule> in, int from, int to, int depth) {
        if (from == to) {
            return true;
        }
        if (depth > 26) {
            return false;
        }
        for (Rule rule : in) {
            if (isUnit(rule) && rule.left() == from && leads(in, rule.one().charAt(0) - 'A', to, depth + 1)) {
                return true;
            }
        }
        return false;
    }

    int slot(int set, int bass, int pitch) {
        boolean isBass = bass == -1 || bass >= 0 && bass < 12 && (set >> bass) % 2 != 0;
        if (slots.size() == 24 || set < 1 || set > 4095 || !isBass || pitch < -1 || pitch > 127) {
            return -1;
        }
        slots.add(new Slot(set, bass, pitch));
        return slots.size() - 1;
    }

    int clear() {
        int n = slots.size();
        slots.clear();
        return n;
    }

    int fit(int slot, int root, int kind) {
        if (slot < 0 || slot >= slots.size() || root < 0 || root > 11 || kind < 0 || kind > 8) {
            return -1;
        }
        Slot s = slots.get(slot);
        int shared = 0;
        int sum = 0;
        for (int c = 0; c < 12; c++) {
            boolean isHeard = (s.set() >> c) % 2 != 0;
            boolean isChords = isOf(root, kind, c);
            shared += isHeard && isChords ? 1 : 0;
            sum += isHeard && !isChords ? costs[0] : !isHeard && isChords ? costs[1] : 0;
        }
        if (s.bass() != -1 && s.bass() != root) {
            sum += isOf(root, kind, s.bass()) ? costs[2] : costs[3];
        }
        return shared < 2 ? -1 : sum;
    }

    private static boolean isOf(int root, int kind, int c) {
        return Arrays.stream(KINDS[kind]).anyMatch(above -> (root + above) % 12 == c % 12);
    }

    int best(int slot) {
        int found = -1;
        for (int code = 107; code >= 0; code--) {
            int price = fit(slot, code % 12, code / 12);
            if (price != -1 && (found == -1 || price <= fit(slot, found % 12, found / 12))) {
                found = code;
            }
        }
        return found;
    }

    int parse() {
        if (rules.isEmpty() || slots.isEmpty()) {
            return -1;
        }
        trees.clear();
        counts.clear();
        oldRules = rules;
        oldSlots = new ArrayList<>(slots);
        for (int to = 0; to < slots.size(); to++) {
            for (int from = to; from >= 0; from--) {
                for (char name = 'A'; name <= 'Z'; name++) {
                    treesOf("" + name, from, to);
                    countOf("" + name, from, to);
                }
            }
        }
        List<Tree> all = treesOf("" + (char) ('A' + rules.get(0).left()), 0, slots.size() - 1);
        listed = all.subList(0, Math.min(30, all.size()));
        return listed.size();
    }

    private List<Tree> treesOf(String item, int from, int to) {
        String place = item + " " + from + " " + to;
        List<Tree> found = trees.get(place);
        if (found != null) {
            return found;
        }
        found = new ArrayList<>();
        if (Character.isDigit(item.charAt(0))) {
            Tree symbol = from == to ? symbol(item, from) : null;
            if (symbol != null) {
                found.add(symbol);
            }
        } else {
            for (int r = 0; r < rules.size(); r++) {
                if (rules.get(r).left() == item.charAt(0) - 'A') {
                    addTrees(found, r, from, to);
                }
            }
            found.sort(PlainModel::compare);
            found = new ArrayList<>(found.subList(0, Math.min(limit, found.size())));
        }
        trees.put(place, found);
        return found;
    }

    private Tree symbol(String item, int slot) {
        int degree = item.charAt(0) - '0';
        int root = (tonic + SCALES[isMinor ? 1 : 0][degree - 1]) % 12;
        Tree found = null;
        for (int kind = 0; kind < 9; kind++) {
            int price = fit(slot, root, kind);
            boolean isTold = item.length() == 1 || LETTERS.charAt(kind) == item.charAt(1);
            if (isTold && price != -1 && (found == null || price < found.cost())) {
                found = new Tree(-1, slot, slot, price, 12 * kind + root, degree, null, null);
            }
        }
        return found;
    }

    private void addTrees(List<Tree> found, int r, int from, int to) {
        Rule rule = rules.get(r);
        if (rule.two() == null) {
            for (Tree one : treesOf(rule.one(), from, to)) {
                found.add(new Tree(r, from, to, rule.cost() + one.cost(), -1, -1, one, null));
            }
            return;
        }
        for (int end = from; end < to; end++) {
            for (Tree one : treesOf(rule.one(), from, end)) {
                for (Tree two : treesOf(rule.two(), end + 1, to)) {
                    found.add(new Tree(r, from, to, rule.cost() + one.cost() + two.cost(), -1, -1, one, two));
                }
            }
        }
    }

    private static int compare(Tree a, Tree b) {
        if (a == b) {
            return 0;
        }
        if (a.cost() != b.cost()) {
            return Integer.compare(a.cost(), b.cost());
        }
        if (a.rule() != b.rule()) {
            return Integer.compare(a.rule(), b.rule());
        }
        if (a.one() == null) {
            return 0;
        }
        if (a.one().to() != b.one().to()) {
            return Integer.compare(a.one().to(), b.one().to());
        }
        int first = compare(a.one(), b.one());
        return first != 0 || a.two() == null ? first : compare(a.two(), b.two());
    }

    private BigInteger countOf(String item, int from, int to) {
        if (Character.isDigit(item.charAt(0))) {
            return BigInteger.valueOf(treesOf(item, from, to).size());
        }
        String place = item + " " + from + " " + to;
        if (counts.containsKey(place)) {
            return counts.get(place);
        }
        BigInteger sum = BigInteger.ZERO;
        for (Rule rule : rules) {
            if (rule.left() != item.charAt(0) - 'A') {
                continue;
            }
            if (rule.two() == null) {
                sum = sum.add(countOf(rule.one(), from, to));
            }
            for (int end = from; rule.two() != null && end < to; end++) {
                sum = sum.add(countOf(rule.one(), from, end).multiply(countOf(rule.two(), end + 1, to)));
            }
        }
        counts.put(place, sum);
        return sum;
    }

    /** Before a parse, and where nothing is cut, the trees themselves are the count. */
    boolean countsAreTrees() {
        for (Map.Entry<String, BigInteger> e : counts.entrySet()) {
            if (e.getValue().bitLength() < 31 && e.getValue().intValue() < limit
                && e.getValue().intValue() != trees.get(e.getKey()).size()) {
                return false;
            }
        }
        return true;
    }

    long readings() {
        return oldSlots.isEmpty() ? 0 : cell(0, oldSlots.size() - 1, oldRules.get(0).left());
    }

    private Tree reading(int reading) {
        return reading >= 0 && reading < listed.size() ? listed.get(reading) : null;
    }

    int price(int reading) {
        return reading(reading) == null ? -1 : reading(reading).cost();
    }

    private static void flatten(Tree tree, List<Tree> into) {
        if (tree != null) {
            into.add(tree);
            flatten(tree.one(), into);
            flatten(tree.two(), into);
        }
    }

    private List<Tree> flat(int reading) {
        List<Tree> all = new ArrayList<>();
        flatten(reading(reading), all);
        return all;
    }

    int node(int reading, int i, int what) {
        List<Tree> all = flat(reading);
        if (i < 0 || i >= all.size() || what < 0 || what > 3) {
            return -1;
        }
        Tree tree = all.get(i);
        return new int[] {tree.rule(), tree.from(), tree.to(), tree.chord()}[what];
    }

    int nodes(int reading) {
        return reading(reading) == null ? -1 : flat(reading).size();
    }

    private Tree leaf(int reading, int slot) {
        for (Tree tree : flat(reading)) {
            if (tree.chord() != -1 && tree.from() == slot) {
                return tree;
            }
        }
        return null;
    }

    int chord(int reading, int slot) {
        Tree leaf = leaf(reading, slot);
        return leaf == null ? -1 : leaf.chord();
    }

    int cadence(int reading) {
        if (reading(reading) == null) {
            return -1;
        }
        int n = oldSlots.size();
        int last = leaf(reading, n - 1).degree();
        String end = (n == 1 ? "-" : "" + leaf(reading, n - 2).degree()) + last;
        return end.equals("51") ? 1 : end.equals("41") ? 2 : last == 5 ? 3 : end.equals("56") ? 4 : 0;
    }

    private int pitch(int slot) {
        return slot >= 0 && slot < oldSlots.size() ? oldSlots.get(slot).pitch() : -1;
    }

    int melody(int reading, int slot) {
        int chord = chord(reading, slot);
        int pitch = pitch(slot);
        if (chord == -1 || pitch == -1) {
            return -1;
        }
        if (isOf(chord % 12, chord / 12, pitch)) {
            return 0;
        }
        boolean hasBefore = pitch(slot - 1) != -1;
        boolean hasBehind = pitch(slot + 1) != -1;
        int before = pitch(slot - 1);
        int behind = pitch(slot + 1);
        int to = Math.abs(pitch - before);
        int on = Math.abs(behind - pitch);
        boolean both = hasBefore && hasBehind;
        boolean same = Integer.signum(pitch - before) * Integer.signum(behind - pitch) == 1;
        boolean other = Integer.signum(pitch - before) * Integer.signum(behind - pitch) == -1;
        boolean stepTo = to == 1 || to == 2;
        boolean stepOn = on == 1 || on == 2;
        boolean[] are = {false, both && stepTo && stepOn && same, both && stepTo && before == behind,
            both && to == 0 && stepOn && behind < pitch, hasBehind && on == 0,
            both && to > 2 && stepOn && other, both && stepTo && on > 2 && other, true};
        int k = 1;
        while (!are[k]) {
            k++;
        }
        return k;
    }

    /** The caller sees to it that there is such a cell. */
    long cell(int from, int to, int letter) {
        return counts.get("" + (char) ('A' + letter) + " " + from + " " + to).longValue();
    }

    boolean hasCell(int from, int to, int letter) {
        return from >= 0 && from <= to && to < oldSlots.size() && letter >= 0 && letter < 26;
    }

    int told(int what) {
        int[] all = {slots.size(), rules.size(), draft.length(), listed.size(), oldSlots.size()};
        return what < 0 || what > 4 ? -1 : all[what];
    }
}
