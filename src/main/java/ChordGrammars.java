/**
 * Slots of sounding pitch classes read as chords at a cost, and rows of chords read by a grammar of functions.
 * The words in capitals are those of the document.
 */
public final class ChordGrammars {
    public static final int NONE = -1;

    private static final int CLASSES = 12;
    private static final int CLASS_BITS = 4095;
    private static final int KINDS = 9;
    private static final int DEGREES = 7;
    private static final int COSTS = 4;
    private static final int MOST_COST = 1000;
    private static final int TOP_PITCH = 127;
    private static final int MOST_SLOTS = 24;
    private static final int MOST_OCTETS = 800;
    private static final int MOST_RULES = 60;
    private static final int MOST_LISTED = 30;

    /** Bits of each KIND's CLASSES above a root of 0. */
    private static final int[] KIND_SETS = {145, 137, 73, 273, 1169, 2193, 1161, 1097, 585};
    private static final String KIND_LETTERS = "Mmdasjnho";
    private static final int[] MAJOR = {0, 2, 4, 5, 7, 9, 11};
    private static final int[] MINOR = {0, 2, 3, 5, 7, 8, 10};

    /** An ITEM is one number: a NAME's letter, or behind all NAMES a SYMBOL's degree and KIND. */
    private static final int NAMES = 26;
    private static final int ANY_KIND = KINDS;
    private static final int SYMBOLS_PER_DEGREE = KINDS + 1;
    private static final int SYMBOLS = DEGREES * SYMBOLS_PER_DEGREE;

    private static final int SPANS = MOST_SLOTS * (MOST_SLOTS + 1) / 2;

    /** Without a RING a NAME stands at most once over the same SLOTS, so that no tree can be larger. */
    private static final int MOST_NODES = MOST_SLOTS * (NAMES + 1) + (MOST_SLOTS - 1) * NAMES;

    private final Key key = new Key();
    private final Tariff tariff = new Tariff();
    private final Slots slots = new Slots();
    private final Draft draft = new Draft();
    private final Grammar grammar = new Grammar();
    private final Reader reader = new Reader();
    private final Chart chart = new Chart();
    private final Tree tree = new Tree();

    public ChordGrammars() {
    }

    public boolean key(int tonic, boolean isMinor) {
        return key.change(tonic, isMinor);
    }

    public boolean cost(int which, int v) {
        return tariff.change(which, v);
    }

    public int draft(int n, long octets) {
        return draft.extend(n, octets);
    }

    public int grammar() {
        int fault = reader.readAll(draft);
        draft.size = 0;
        if (fault != NONE) {
            return -2 - fault;
        }
        grammar.become(reader.found);
        return grammar.rules;
    }

    public int slot(int set, int bass, int melody) {
        return slots.add(set, bass, melody);
    }

    public int clear() {
        int before = slots.count;
        slots.count = 0;
        return before;
    }

    public int fit(int slot, int root, int kind) {
        return slots.has(slot) ? tariff.ofFit(slots.sets[slot], slots.basses[slot], root, kind) : NONE;
    }

    public int best(int slot) {
        return slots.has(slot) ? tariff.cheapest(slots.sets[slot], slots.basses[slot]) : NONE;
    }

    public int parse() {
        if (grammar.rules == 0 || slots.count == 0) {
            return NONE;
        }
        chart.listAll(grammar, slots, key, tariff);
        tree.reading = NONE;
        return chart.listed();
    }

    public long readings() {
        return chart.countOfAll();
    }

    public int price(int reading) {
        return isListed(reading) ? chart.priceOfWhole(reading) : NONE;
    }

    public int node(int reading, int i, int what) {
        if (!isListed(reading)) {
            return NONE;
        }
        treeOf(reading);
        if (i < 0 || i >= tree.count) {
            return NONE;
        }
        switch (what) {
            case 0:
                return tree.rules[i];
            case 1:
                return tree.firsts[i];
            case 2:
                return tree.lasts[i];
            case 3:
                return tree.chords[i];
            default:
                return NONE;
        }
    }

    public int nodes(int reading) {
        return isListed(reading) ? treeOf(reading).count : NONE;
    }

    public int chord(int reading, int slot) {
        return isListed(reading) && chart.hasSlot(slot) ? treeOf(reading).slotChords[slot] : NONE;
    }

    public int cadence(int reading) {
        if (!isListed(reading)) {
            return NONE;
        }
        treeOf(reading);
        return ending(tree.degreeAt(chart.slots - 2), tree.degreeAt(chart.slots - 1));
    }

    public int melody(int reading, int slot) {
        if (!isListed(reading)) {
            return NONE;
        }
        int pitch = chart.pitchAt(slot);
        int chord = chord(reading, slot);
        if (pitch == NONE || chord == NONE) {
            return NONE;
        }
        if ((chordSet(chord % CLASSES, chord / CLASSES) >>> pitch % CLASSES & 1) != 0) {
            return 0;
        }
        return strangerNote(chart.pitchAt(slot - 1), pitch, chart.pitchAt(slot + 1));
    }

    public long cell(int from, int to, int letter) throws ArrayIndexOutOfBoundsException {
        if (from < 0 || from > to || to >= chart.slots || letter < 0 || letter >= NAMES) {
            throw new ArrayIndexOutOfBoundsException("no such row of slots, or no such letter");
        }
        return chart.countOf(letter, from, to);
    }

    public int told(int what) {
        switch (what) {
            case 0:
                return slots.count;
            case 1:
                return grammar.rules;
            case 2:
                return draft.size;
            case 3:
                return chart.listed();
            case 4:
                return chart.slots;
            default:
                return NONE;
        }
    }

    private boolean isListed(int reading) {
        return reading >= 0 && reading < chart.listed();
    }

    /** Many calls in a row ask for the same READING, so its tree is walked once only. */
    private Tree treeOf(int reading) {
        if (tree.reading != reading) {
            tree.walk(chart, reading);
        }
        return tree;
    }

    /** The CLASSES of a CHORD as bits, and none for what is no CHORD: so that it fits nothing. */
    private static int chordSet(int root, int kind) {
        if (root < 0 || root >= CLASSES || kind < 0 || kind >= KINDS) {
            return 0;
        }
        int raised = KIND_SETS[kind] << root;
        return (raised | raised >>> CLASSES) & CLASS_BITS;
    }

    private static int ending(int before, int last) {
        if (last == 1 && before == 5) {
            return 1;
        }
        if (last == 1 && before == 4) {
            return 2;
        }
        if (last == 5) {
            return 3;
        }
        return last == 6 && before == 5 ? 4 : 0;
    }

    /** What a PITCH is that is none of its CHORD's; before and behind may be NONE. */
    private static int strangerNote(int before, int pitch, int behind) {
        if (behind == NONE) {
            return 7;
        }
        int on = behind - pitch;
        if (before == NONE) {
            return on == 0 ? 4 : 7;
        }
        int to = pitch - before;
        boolean turns = to > 0 && on < 0 || to < 0 && on > 0;
        if (isStep(to) && isStep(on) && !turns) {
            return 1;
        }
        if (isStep(to) && behind == before) {
            return 2;
        }
        if (to == 0 && isStep(on) && on < 0) {
            return 3;
        }
        if (on == 0) {
            return 4;
        }
        if (isLeap(to) && isStep(on) && turns) {
            return 5;
        }
        return isStep(to) && isLeap(on) && turns ? 6 : 7;
    }

    private static boolean isStep(int way) {
        return way != 0 && !isLeap(way);
    }

    private static boolean isLeap(int way) {
        return way > 2 || way < -2;
    }

    private static final class Key {
        private int tonic = 0;
        private boolean isMinor = false;

        private boolean change(int newTonic, boolean newMinor) {
            if (newTonic < 0 || newTonic >= CLASSES) {
                return false;
            }
            tonic = newTonic;
            isMinor = newMinor;
            return true;
        }

        /** The degree counts from 0 here. */
        private int rootOf(int degree) {
            if (degree < 0 || degree >= DEGREES) {
                return NONE;
            }
            return (tonic + (isMinor ? MINOR[degree] : MAJOR[degree])) % CLASSES;
        }
    }

    private static final class Tariff {
        private final int[] costs = {4, 3, 1, 5};

        private boolean change(int which, int v) {
            if (which < 0 || which >= COSTS || v < 0 || v > MOST_COST) {
                return false;
            }
            costs[which] = v;
            return true;
        }

        private int ofFit(int set, int bass, int root, int kind) {
            int chord = chordSet(root, kind);
            int shared = Integer.bitCount(chord & set);
            if (shared < 2) {
                return NONE;
            }
            int strangers = Integer.bitCount(set) - shared;
            int missing = Integer.bitCount(chord) - shared;
            return strangers * costs[0] + missing * costs[1] + ofBass(bass, root, chord);
        }

        private int ofBass(int bass, int root, int chord) {
            if (bass == NONE || bass == root) {
                return 0;
            }
            return (chord >>> bass & 1) != 0 ? costs[2] : costs[3];
        }

        private int cheapest(int set, int bass) {
            int best = NONE;
            int least = Integer.MAX_VALUE;
            for (int kind = 0; kind < KINDS; kind++) {
                for (int root = 0; root < CLASSES; root++) {
                    int price = ofFit(set, bass, root, kind);
                    if (price != NONE && price < least) {
                        least = price;
                        best = CLASSES * kind + root;
                    }
                }
            }
            return best;
        }
    }

    private static final class Slots {
        private final int[] sets = new int[MOST_SLOTS];
        private final int[] basses = new int[MOST_SLOTS];
        private final int[] pitches = new int[MOST_SLOTS];
        private int count = 0;

        private boolean has(int number) {
            return number >= 0 && number < count;
        }

        private int add(int set, int bass, int pitch) {
            if (count >= MOST_SLOTS || set < 1 || set > CLASS_BITS || pitch < NONE || pitch > TOP_PITCH) {
                return NONE;
            }
            if (bass != NONE && (bass < 0 || bass >= CLASSES || (set >>> bass & 1) == 0)) {
                return NONE;
            }
            sets[count] = set;
            basses[count] = bass;
            pitches[count] = pitch;
            count++;
            return count - 1;
        }
    }

    private static final class Draft {
        private final byte[] octets = new byte[MOST_OCTETS];
        private int size = 0;

        private int extend(int n, long more) {
            if (n < 1 || n > 8 || size + n > MOST_OCTETS) {
                return NONE;
            }
            for (int k = 0; k < n; k++) {
                octets[size + k] = (byte) (more >>> 8 * k);
            }
            size += n;
            return size;
        }

        /** NONE at the end. */
        private int octetAt(int place) {
            return place >= 0 && place < size ? octets[place] & 255 : NONE;
        }
    }

    private static final class Grammar {
        private final int[] lefts = new int[MOST_RULES];
        private final int[] ones = new int[MOST_RULES];
        /** NONE where a RULE has one ITEM. */
        private final int[] twos = new int[MOST_RULES];
        private final int[] costs = new int[MOST_RULES];
        /** The RULES so that each with a NAME as its one ITEM stands behind all RULES of that NAME. */
        private final int[] order = new int[MOST_RULES];
        private int rules = 0;

        private void become(Grammar other) {
            System.arraycopy(other.lefts, 0, lefts, 0, MOST_RULES);
            System.arraycopy(other.ones, 0, ones, 0, MOST_RULES);
            System.arraycopy(other.twos, 0, twos, 0, MOST_RULES);
            System.arraycopy(other.costs, 0, costs, 0, MOST_RULES);
            System.arraycopy(other.order, 0, order, 0, MOST_RULES);
            rules = other.rules;
        }

        private boolean renames(int rule) {
            return twos[rule] == NONE && ones[rule] < NAMES;
        }
    }

    /** Reads a draft into a grammar of its own, so that a FAULT leaves THE GRAMMAR as it was. */
    private static final class Reader {
        private final Grammar found = new Grammar();
        private final int[] leftPlaces = new int[MOST_RULES];
        /** For each NAME the NAMES to which RULES with one ITEM lead from it, as bits. */
        private final int[] reach = new int[NAMES];
        private int place = 0;

        /** The place of the FAULT, else NONE. */
        private int readAll(Draft text) {
            place = 0;
            found.rules = 0;
            for (int k = 0; k <= MOST_RULES; k++) {
                if (nextOctet(text) == NONE && k > 0) {
                    break;
                }
                if (!readRule(text)) {
                    return place;
                }
            }
            findReach();
            int ring = ringPlace();
            if (ring == NONE) {
                arrange();
            }
            return ring;
        }

        /** Where this answers false, place is at the octet that can't stand there. */
        private boolean readRule(Draft text) {
            int left = nextOctet(text);
            int leftPlace = place;
            if (!isName(left) || found.rules >= MOST_RULES) {
                return false;
            }
            place++;
            if (!takes(text, '=')) {
                return false;
            }
            int one = readItem(text);
            if (one == NONE) {
                return false;
            }
            int two = readItem(text);
            int price = readCost(text);
            if (price == NONE || !takes(text, ';')) {
                return false;
            }
            int rule = found.rules;
            found.lefts[rule] = left - 'A';
            found.ones[rule] = one;
            found.twos[rule] = two;
            found.costs[rule] = price;
            leftPlaces[rule] = leftPlace;
            found.rules = rule + 1;
            return true;
        }

        private int readItem(Draft text) {
            int octet = nextOctet(text);
            if (isName(octet)) {
                place++;
                return octet - 'A';
            }
            if (octet < '1' || octet > '7') {
                return NONE;
            }
            place++;
            int kind = kindOf(text.octetAt(place));
            if (kind == NONE) {
                kind = ANY_KIND;
            } else {
                place++;
            }
            return NAMES + (octet - '1') * SYMBOLS_PER_DEGREE + kind;
        }

        /** NONE when a cost is begun but has no figure. */
        private int readCost(Draft text) {
            if (!takes(text, ':')) {
                return 0;
            }
            int octet = nextOctet(text);
            if (!isFigure(octet)) {
                return NONE;
            }
            int price = 0;
            for (int k = 0; k < 3 && isFigure(octet); k++) {
                price = price * 10 + octet - '0';
                place++;
                octet = text.octetAt(place);
            }
            return price;
        }

        private boolean takes(Draft text, int wanted) {
            boolean isThere = nextOctet(text) == wanted;
            if (isThere) {
                place++;
            }
            return isThere;
        }

        private int nextOctet(Draft text) {
            while (place < text.size && text.octetAt(place) == ' ') {
                place++;
            }
            return text.octetAt(place);
        }

        private static boolean isName(int octet) {
            return octet >= 'A' && octet <= 'Z';
        }

        private static boolean isFigure(int octet) {
            return octet >= '0' && octet <= '9';
        }

        private static int kindOf(int octet) {
            return octet < 0 ? NONE : KIND_LETTERS.indexOf((char) octet);
        }

        private void findReach() {
            for (int name = 0; name < NAMES; name++) {
                reach[name] = 0;
            }
            for (int rule = 0; rule < found.rules; rule++) {
                if (found.renames(rule)) {
                    reach[found.lefts[rule]] |= 1 << found.ones[rule];
                }
            }
            for (int via = 0; via < NAMES; via++) {
                for (int from = 0; from < NAMES; from++) {
                    if (reaches(from, via)) {
                        reach[from] |= reach[via];
                    }
                }
            }
        }

        private boolean reaches(int from, int to) {
            return (reach[from] >>> to & 1) != 0;
        }

        private int ringPlace() {
            for (int rule = 0; rule < found.rules; rule++) {
                if (found.renames(rule) && reaches(found.ones[rule], found.lefts[rule])) {
                    return leftPlaces[rule];
                }
            }
            return NONE;
        }

        /** Without a RING a NAME reaches more NAMES than any that it reaches: so their number gives the order. */
        private void arrange() {
            int n = 0;
            for (int reached = 0; reached < NAMES; reached++) {
                for (int rule = 0; rule < found.rules; rule++) {
                    if (n < MOST_RULES && Integer.bitCount(reach[found.lefts[rule]]) == reached) {
                        found.order[n] = rule;
                        n++;
                    }
                }
            }
        }
    }

    /** By which CHORD, and at which cost, each SYMBOL reads each SLOT. */
    private static final class Symbols {
        private final int[] chords = new int[MOST_SLOTS * SYMBOLS];
        private final int[] prices = new int[MOST_SLOTS * SYMBOLS];

        private void fill(Slots slots, Key key, Tariff tariff) {
            for (int number = 0; number < slots.count; number++) {
                for (int degree = 0; degree < DEGREES; degree++) {
                    fillDegree(slots, number, degree, key.rootOf(degree), tariff);
                }
            }
        }

        private void fillDegree(Slots slots, int number, int degree, int root, Tariff tariff) {
            int base = number * SYMBOLS + degree * SYMBOLS_PER_DEGREE;
            int any = base + ANY_KIND;
            chords[any] = NONE;
            prices[any] = NONE;
            for (int kind = 0; kind < KINDS; kind++) {
                int price = tariff.ofFit(slots.sets[number], slots.basses[number], root, kind);
                int chord = price == NONE ? NONE : CLASSES * kind + root;
                chords[base + kind] = chord;
                prices[base + kind] = price;
                if (chord != NONE && (chords[any] == NONE || price < prices[any])) {
                    chords[any] = chord;
                    prices[any] = price;
                }
            }
        }
    }

    /**
     * All that the latest parse found: for each span of SLOTS and each NAME the count and the least READINGS.
     * A READING is one number: from the top bits its cost, RULE, first part's length, and both parts' ranks,
     * so that the order of the numbers is the order of the READINGS.
     */
    private static final class Chart {
        private static final int COST_SHIFT = 21;
        private static final int RULE_SHIFT = 15;
        private static final int PART_SHIFT = 10;
        private static final int RANK_SHIFT = 5;
        private static final int RULE_BITS = 63;
        private static final int SMALL_BITS = 31;

        /** Its own, as are symbols and pitches: what is LISTED outlives the changes behind it. */
        private final Grammar grammar = new Grammar();
        private final Symbols symbols = new Symbols();
        private final int[] pitches = new int[MOST_SLOTS];
        private final long[] counts = new long[SPANS * NAMES];
        /** These alone tell whether there are READINGS: a count may wrap to 0. */
        private final int[] sizes = new int[SPANS * NAMES];
        private final long[] least = new long[SPANS * NAMES * MOST_LISTED];
        private int slots = 0;

        private void listAll(Grammar newGrammar, Slots newSlots, Key key, Tariff tariff) {
            grammar.become(newGrammar);
            slots = newSlots.count;
            System.arraycopy(newSlots.pitches, 0, pitches, 0, MOST_SLOTS);
            symbols.fill(newSlots, key, tariff);
            for (int to = 0; to < slots; to++) {
                // from the right, so that both parts of a span are filled before it
                for (int from = to; from >= 0; from--) {
                    fillSpan(from, to);
                }
            }
        }

        private void fillSpan(int from, int to) {
            for (int name = 0; name < NAMES; name++) {
                counts[rowOf(name, from, to)] = 0;
                sizes[rowOf(name, from, to)] = 0;
            }
            for (int k = 0; k < grammar.rules; k++) {
                int rule = grammar.order[k];
                if (grammar.twos[rule] == NONE) {
                    addWhole(rule, from, to);
                } else {
                    for (int part = 1; part <= to - from; part++) {
                        addParts(rule, from, to, part);
                    }
                }
            }
        }

        private void addWhole(int rule, int from, int to) {
            int row = rowOf(grammar.lefts[rule], from, to);
            int item = grammar.ones[rule];
            int size = sizeOf(item, from, to);
            if (size == 0) {
                return;
            }
            counts[row] += countOf(item, from, to);
            boolean isKept = true;
            for (int i = 0; i < size && isKept; i++) {
                int price = grammar.costs[rule] + priceOf(item, from, to, i);
                isKept = offer(row, entryOf(price, rule, 0, i, 0));
            }
        }

        private void addParts(int rule, int from, int to, int part) {
            int middle = from + part;
            int one = grammar.ones[rule];
            int two = grammar.twos[rule];
            int sizeOne = sizeOf(one, from, middle - 1);
            int sizeTwo = sizeOne == 0 ? 0 : sizeOf(two, middle, to);
            if (sizeTwo == 0) {
                return;
            }
            int row = rowOf(grammar.lefts[rule], from, to);
            counts[row] += countOf(one, from, middle - 1) * countOf(two, middle, to);
            boolean isKept = true;
            for (int i = 0; i < sizeOne && isKept; i++) {
                int price = grammar.costs[rule] + priceOf(one, from, middle - 1, i);
                // a pair of ranks comes behind all pairs of lower ones: beyond this there are too many of them
                int most = Math.min(sizeTwo, MOST_LISTED / (i + 1));
                int j = 0;
                while (j < most && offer(row, entryOf(price + priceOf(two, middle, to, j), rule, part, i, j))) {
                    j++;
                }
                isKept = j > 0;
            }
        }

        /** Keeps an entry if it is among the least of its row; if not, no greater one need be offered. */
        private boolean offer(int row, long entry) {
            int base = row * MOST_LISTED;
            int hole = sizes[row];
            if (hole < MOST_LISTED) {
                sizes[row] = hole + 1;
            } else {
                hole = MOST_LISTED - 1;
                if (entry >= least[base + hole]) {
                    return false;
                }
            }
            while (hole > 0 && least[base + hole - 1] > entry) {
                least[base + hole] = least[base + hole - 1];
                hole--;
            }
            least[base + hole] = entry;
            return true;
        }

        private int listed() {
            return slots == 0 ? 0 : sizes[wholeRow()];
        }

        private long countOfAll() {
            return slots == 0 ? 0 : counts[wholeRow()];
        }

        private int priceOfWhole(int rank) {
            return priceOf(grammar.lefts[0], 0, slots - 1, rank);
        }

        private int wholeRow() {
            return rowOf(grammar.lefts[0], 0, slots - 1);
        }

        private int pitchAt(int number) {
            return hasSlot(number) ? pitches[number] : NONE;
        }

        private boolean hasSlot(int number) {
            return number >= 0 && number < slots;
        }

        private int sizeOf(int item, int from, int to) {
            if (item < NAMES) {
                return sizes[rowOf(item, from, to)];
            }
            return from == to && chordOf(item, from) != NONE ? 1 : 0;
        }

        private long countOf(int item, int from, int to) {
            return item < NAMES ? counts[rowOf(item, from, to)] : sizeOf(item, from, to);
        }

        private int priceOf(int item, int from, int to, int rank) {
            if (item < NAMES) {
                return (int) (entryAt(item, from, to, rank) >>> COST_SHIFT);
            }
            return symbols.prices[from * SYMBOLS + item - NAMES];
        }

        private int chordOf(int symbol, int number) {
            return symbols.chords[number * SYMBOLS + symbol - NAMES];
        }

        private long entryAt(int name, int from, int to, int rank) {
            return least[rowOf(name, from, to) * MOST_LISTED + rank];
        }

        /** Spans are numbered in a triangle, since from is never above to. */
        private static int rowOf(int name, int from, int to) {
            return (to * (to + 1) / 2 + from) * NAMES + name;
        }

        private static long entryOf(int price, int rule, int part, int rankOne, int rankTwo) {
            long shape = rule << RULE_SHIFT | part << PART_SHIFT | rankOne << RANK_SHIFT | rankTwo;
            return (long) price << COST_SHIFT | shape;
        }

        private static int ruleOf(long entry) {
            return (int) (entry >>> RULE_SHIFT) & RULE_BITS;
        }

        private static int partOf(long entry) {
            return (int) (entry >>> PART_SHIFT) & SMALL_BITS;
        }

        private static int rankOneOf(long entry) {
            return (int) (entry >>> RANK_SHIFT) & SMALL_BITS;
        }

        private static int rankTwoOf(long entry) {
            return (int) entry & SMALL_BITS;
        }
    }

    /** One READING's tree, a node before its parts. */
    private static final class Tree {
        /** The READING that was walked, or NONE. */
        private int reading = NONE;
        private int count = 0;
        private final int[] rules = new int[MOST_NODES];
        private final int[] firsts = new int[MOST_NODES];
        private final int[] lasts = new int[MOST_NODES];
        private final int[] chords = new int[MOST_NODES];
        private final int[] slotChords = new int[MOST_SLOTS];
        private final int[] slotDegrees = new int[MOST_SLOTS];
        /** Nodes yet to come, the next one last. They have no SLOT in common, so there are never more than SLOTS. */
        private final int[] waitingItems = new int[MOST_SLOTS];
        private final int[] waitingFirsts = new int[MOST_SLOTS];
        private final int[] waitingLasts = new int[MOST_SLOTS];
        private final int[] waitingRanks = new int[MOST_SLOTS];
        private int waiting = 0;

        /** By a row of waiting nodes, not by calls in calls: a tree may be hundreds of levels deep. */
        private void walk(Chart chart, int newReading) {
            reading = newReading;
            count = 0;
            waiting = 0;
            push(chart.grammar.lefts[0], 0, chart.slots - 1, newReading);
            for (int k = 0; k < MOST_NODES && waiting > 0; k++) {
                waiting--;
                count = k + 1;
                visit(chart, k, waiting);
            }
        }

        private void visit(Chart chart, int node, int place) {
            int item = waitingItems[place];
            int first = waitingFirsts[place];
            int last = waitingLasts[place];
            firsts[node] = first;
            lasts[node] = last;
            rules[node] = NONE;
            chords[node] = NONE;
            if (item >= NAMES) {
                chords[node] = chart.chordOf(item, first);
                slotChords[first] = chords[node];
                slotDegrees[first] = (item - NAMES) / SYMBOLS_PER_DEGREE + 1;
            } else if (waitingRanks[place] < chart.sizeOf(item, first, last)) {
                long entry = chart.entryAt(item, first, last, waitingRanks[place]);
                rules[node] = Chart.ruleOf(entry);
                pushParts(chart.grammar, entry, first, last);
            }
        }

        private void pushParts(Grammar grammar, long entry, int first, int last) {
            int rule = Chart.ruleOf(entry);
            if (rule >= grammar.rules) {
                return;
            }
            int middle = first + Chart.partOf(entry);
            if (grammar.twos[rule] == NONE) {
                push(grammar.ones[rule], first, last, Chart.rankOneOf(entry));
            } else if (middle > first && middle <= last) {
                push(grammar.twos[rule], middle, last, Chart.rankTwoOf(entry));
                push(grammar.ones[rule], first, middle - 1, Chart.rankOneOf(entry));
            }
        }

        private void push(int item, int first, int last, int rank) {
            if (waiting < MOST_SLOTS) {
                waitingItems[waiting] = item;
                waitingFirsts[waiting] = first;
                waitingLasts[waiting] = last;
                waitingRanks[waiting] = rank;
                waiting++;
            }
        }

        /** NONE where there is no such SLOT. */
        private int degreeAt(int number) {
            return number >= 0 && number < MOST_SLOTS ? slotDegrees[number] : NONE;
        }
    }
}
