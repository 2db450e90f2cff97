/**
 * A desk for questions of what may be taken together.
 *
 * <p>Every rule is held as one table: the rank of each set. A set is allowed just where its rank is
 * as many as it has things, so all questions are answered from that table alone.
 */
public final class IndependenceDesk {
    public static final int NONE = -1;

    private static final int MOST_THINGS = 12;
    private static final int FIRST_THINGS = 8;
    private static final int MOST_WEIGHT = 1000000;
    private static final int SLOTS = 10;
    private static final int MOST_NUMBERS = 200;
    private static final int WIDEST = 3;
    private static final int MOST_RULES = 24;
    private static final int DEEPEST = 3;

    private static final int TOLD = 0;
    private static final int EVEN = 1;
    private static final int PARTS = 2;
    private static final int NESTED = 3;
    private static final int EDGES = 4;
    private static final int ROWS = 5;
    private static final int PLACES = 6;
    private static final int LESS = 7;
    private static final int TAKEN = 8;
    private static final int TURNED = 9;
    private static final int JOINED = 10;

    private static final int MOST_TOLD = 150;
    private static final int MOST_NESTED = 40;
    private static final int MOST_BOUND = 12;
    private static final int LAST_PART = 11;
    private static final int LAST_END = 15;
    private static final int ALL_PLACES = 4095;
    private static final int MOST_COLUMNS = 6;

    private static final int NO_SUCH = -2;
    private static final int BELOW_ZERO = -3;
    private static final int TOO_DEEP = -3;
    private static final int NOT_AS_TOLD = -4;
    private static final int EMPTY_SLOT = -5;
    private static final int NO_SUCH_NUMBER = -6;
    private static final int OTHER_WIDTH = -7;
    private static final int LIE_OTHERWISE = -7;
    private static final int TOO_MANY = -8;
    private static final int LAW_BROKEN = -9;

    private final Slot[] slots = new Slot[SLOTS];
    private final Rule[] rules = new Rule[MOST_RULES];
    private final int[] weights = new int[MOST_THINGS];
    private final int[] heaps = new int[MOST_THINGS];
    private final Reading reading = new Reading();
    private final Told told = new Told();
    private final Bounds bounds = new Bounds();
    private final Reaches reaches = new Reaches();
    private final Vectors vectors = new Vectors();
    private int things;
    private int all;
    private int made;

    public IndependenceDesk() {
        for (int i = 0; i < slots.length; i++) {
            slots[i] = new Slot();
        }
        startAnew(FIRST_THINGS);
    }

    public boolean fresh(int n) {
        if (n < 1 || n > MOST_THINGS) {
            return false;
        }
        startAnew(n);
        return true;
    }

    public int weight(int thing, int w) {
        if (!isThing(thing) || w < 0 || w > MOST_WEIGHT) {
            return NONE;
        }
        int before = weights[thing];
        weights[thing] = w;
        return before;
    }

    public int row(int slot, int width, int n) {
        Slot at = slotAt(slot);
        if (at == null || width < 0 || width > WIDEST || n > MOST_NUMBERS) {
            return NO_SUCH;
        }
        if (n < 0) {
            return BELOW_ZERO;
        }
        at.lay(width, n);
        return 0;
    }

    public boolean tear(int slot) {
        Slot at = slotAt(slot);
        if (at == null || !at.hasRow()) {
            return false;
        }
        at.clear();
        return true;
    }

    public int write(int slot, int i, long v) {
        int refusal = numberRefusal(slot, i);
        Slot at = slotAt(slot);
        if (refusal == 0 && at != null) {
            at.put(i, v);
        }
        return refusal;
    }

    public long read(int slot, int i) {
        Slot at = slotAt(slot);
        return at == null || numberRefusal(slot, i) != 0 ? 0 : at.number(i);
    }

    public int copy(int slot, int i, int other, int j, int n) {
        Slot from = slotAt(slot);
        Slot to = slotAt(other);
        if (from == null || to == null) {
            return NO_SUCH;
        }
        if (!from.hasRow() || !to.hasRow()) {
            return EMPTY_SLOT;
        }
        if (from.width != to.width) {
            return OTHER_WIDTH;
        }
        if (!from.hasStretch(i, n) || !to.hasStretch(j, n)) {
            return NO_SUCH_NUMBER;
        }
        System.arraycopy(from.numbers, i, to.numbers, j, n);
        return 0;
    }

    public int rule(int kind, int slot) {
        Slot source = slotAt(slot);
        if (source == null || kind < TOLD || kind > PLACES) {
            return NO_SUCH;
        }
        if (made >= MOST_RULES) {
            return TOO_MANY;
        }
        if (!source.hasRow()) {
            return EMPTY_SLOT;
        }
        reading.start(source);
        Check check = checkFromNumbers(kind);
        if (reading.refusal != 0) {
            return reading.refusal;
        }
        if (kind == NESTED && !bounds.lieNested()) {
            return LIE_OTHERWISE;
        }
        if (kind == TOLD && told.breaksLaw(all)) {
            return LAW_BROKEN;
        }
        return addRule(kind, NONE, NONE, 1, check);
    }

    public int less(int rule, int t) {
        return addDerived(LESS, rule, rule, t);
    }

    public int take(int rule, int t) {
        return addDerived(TAKEN, rule, rule, t);
    }

    public int turn(int rule) {
        return addDerived(TURNED, rule, rule, 0);
    }

    public int join(int a, int b) {
        return addDerived(JOINED, a, b, 0);
    }

    public int broken(int what) {
        switch (what) {
            case 0:
                return told.brokenPart;
            case 1:
                return told.brokenFirst;
            case 2:
                return told.brokenSecond;
            default:
                return NONE;
        }
    }

    public int look(int rule, int what) {
        Rule r = ruleAt(rule);
        if (r == null) {
            return NONE;
        }
        switch (what) {
            case 0:
                return r.kind;
            case 1:
                return r.rankOf(all);
            case 2:
                return r.allowedSets(all);
            case 3:
                return r.first;
            case 4:
                return r.second;
            case 5:
                return r.depth;
            default:
                return NONE;
        }
    }

    public int allows(int rule, int set) {
        Rule r = ruleAt(rule);
        if (r == null || !isSet(set)) {
            return NONE;
        }
        return r.permits(set) ? 1 : 0;
    }

    public int rank(int rule, int set) {
        Rule r = ruleAt(rule);
        return r == null || !isSet(set) ? NONE : r.rankOf(set);
    }

    public int span(int rule, int set) {
        Rule r = ruleAt(rule);
        if (r == null || !isSet(set)) {
            return NONE;
        }
        int spanned = 0;
        for (int i = 0; i < things; i++) {
            if (r.rankOf(set | 1 << i) == r.rankOf(set)) {
                spanned |= 1 << i;
            }
        }
        return spanned;
    }

    public int ring(int rule, int set) {
        Rule r = ruleAt(rule);
        if (r == null || !isSet(set)) {
            return NONE;
        }
        if (r.permits(set)) {
            return 0;
        }
        // Whatever has a part that is not allowed is not allowed itself, so leaving out the
        // greatest things wherever that can be done leads to the least number.
        int left = set;
        for (int i = things - 1; i >= 0; i--) {
            if (!r.permits(left & ~(1 << i))) {
                left &= ~(1 << i);
            }
        }
        return left;
    }

    public int exchange(int rule, int set, int thing) {
        Rule r = ruleAt(rule);
        if (r == null || !isSet(set) || !isThing(thing)) {
            return NONE;
        }
        int with = set | 1 << thing;
        if (!r.permits(set) || with == set) {
            return NONE;
        }
        return r.permits(with) ? 0 : thingsThatMayGo(r, set, with);
    }

    public int full(int rule, boolean light) {
        Rule r = ruleAt(rule);
        if (r == null) {
            return NONE;
        }
        int chosen = 0;
        int seen = 0;
        for (int step = 0; step < things; step++) {
            int bit = 1 << nextByWeight(seen, light);
            seen |= bit;
            if (r.permits(chosen | bit)) {
                chosen |= bit;
            }
        }
        return chosen;
    }

    public int both(int a, int b) {
        Rule first = ruleAt(a);
        Rule second = ruleAt(b);
        return first == null || second == null ? NONE : mostCommon(first, second, second);
    }

    public int split(int a, int b) {
        Rule first = ruleAt(a);
        Rule second = ruleAt(b);
        if (first == null || second == null) {
            return NONE;
        }
        int size = Integer.bitCount(mostCommon(first, second, second));
        for (int set = 0; set <= all; set++) {
            if (first.rankOf(set) + second.rankOf(all & ~set) == size) {
                return set;
            }
        }
        return NONE;
    }

    public int most(int a, int b, int k) {
        Rule first = ruleAt(a);
        Rule second = ruleAt(b);
        if (first == null || second == null) {
            return NONE;
        }
        int greatest = NONE;
        for (int set = 0; set <= all; set++) {
            if (Integer.bitCount(set) == k && first.permits(set) && second.permits(set)) {
                greatest = Math.max(greatest, weightOf(set));
            }
        }
        return greatest;
    }

    public int three(int a, int b, int c) {
        Rule first = ruleAt(a);
        Rule second = ruleAt(b);
        Rule third = ruleAt(c);
        if (first == null || second == null || third == null) {
            return NONE;
        }
        return Integer.bitCount(mostCommon(first, second, third));
    }

    public int fewest(int rule) {
        Rule r = ruleAt(rule);
        if (r == null) {
            return NONE;
        }
        return r.permitsEachAlone(things) ? heapsNeeded(r, mostCrowded(r)) : NO_SUCH;
    }

    public int dealt(int rule, int thing) {
        Rule r = ruleAt(rule);
        if (r == null || !isThing(thing)) {
            return NONE;
        }
        return r.permitsEachAlone(things) ? numberInDeal(r, thing) : NO_SUCH;
    }

    public int crowd(int rule) {
        Rule r = ruleAt(rule);
        if (r == null) {
            return NONE;
        }
        return r.permitsEachAlone(things) ? mostCrowded(r) : NO_SUCH;
    }

    public int pack(int rule) {
        Rule r = ruleAt(rule);
        if (r == null) {
            return NONE;
        }
        int fullRank = r.rankOf(all);
        if (fullRank == 0) {
            return NO_SUCH;
        }
        // Each of the full sets takes, of what is outside a set, at least what that set misses of
        // the full rank; and (Edmonds) nothing else limits how many there are.
        int packed = things;
        for (int set = 0; set <= all; set++) {
            int missing = fullRank - r.rankOf(set);
            if (missing > 0) {
                packed = Math.min(packed, (things - Integer.bitCount(set)) / missing);
            }
        }
        return packed;
    }

    public int same(int a, int b) {
        Rule first = ruleAt(a);
        Rule second = ruleAt(b);
        if (first == null || second == null) {
            return NONE;
        }
        for (int set = 0; set <= all; set++) {
            if (first.permits(set) != second.permits(set)) {
                return 0;
            }
        }
        return 1;
    }

    public int count(int what) {
        switch (what) {
            case 0:
                return things;
            case 1:
                return made;
            case 2:
                return slotsWithRow();
            case 3:
                return weightOf(all);
            default:
                return NONE;
        }
    }

    private void startAnew(int n) {
        things = n;
        all = (1 << n) - 1;
        made = 0;
        for (int i = 0; i < weights.length; i++) {
            weights[i] = 1;
        }
        told.forgetBreach();
    }

    private boolean isThing(int thing) {
        return thing >= 0 && thing < things;
    }

    private boolean isSet(int set) {
        return set >= 0 && set <= all;
    }

    private Slot slotAt(int slot) {
        return slot >= 0 && slot < slots.length ? slots[slot] : null;
    }

    private Rule ruleAt(int number) {
        return number >= 0 && number < made && number < rules.length ? rules[number] : null;
    }

    private int slotsWithRow() {
        int found = 0;
        for (int i = 0; i < slots.length; i++) {
            Slot at = slotAt(i);
            if (at != null && at.hasRow()) {
                found++;
            }
        }
        return found;
    }

    private int numberRefusal(int slot, int i) {
        Slot at = slotAt(slot);
        if (at == null) {
            return NO_SUCH;
        }
        if (!at.hasRow()) {
            return EMPTY_SLOT;
        }
        return at.hasStretch(i, 1) ? 0 : NO_SUCH_NUMBER;
    }

    private int weightOf(int set) {
        int sum = 0;
        for (int i = 0; i < things; i++) {
            if ((set >> i & 1) != 0) {
                sum += weights[i];
            }
        }
        return sum;
    }

    private Check checkFromNumbers(int kind) {
        switch (kind) {
            case TOLD:
                told.readSets(reading, all);
                return told;
            case EVEN:
                bounds.readEven(reading, all);
                return bounds;
            case PARTS:
                bounds.readParts(reading, things);
                return bounds;
            case NESTED:
                bounds.readNested(reading, all);
                return bounds;
            case EDGES:
                reaches.readEdges(reading, things);
                return reaches;
            case ROWS:
                vectors.readRows(reading, things);
                return vectors;
            default:
                reaches.readPlaces(reading, things);
                return reaches;
        }
    }

    private int addDerived(int kind, int a, int b, int t) {
        Rule first = ruleAt(a);
        Rule second = ruleAt(b);
        if (first == null || second == null || !isSet(t)) {
            return NO_SUCH;
        }
        if (made >= MOST_RULES) {
            return TOO_MANY;
        }
        int depth = Math.max(first.depth, second.depth);
        if (depth >= DEEPEST) {
            return TOO_DEEP;
        }
        Derived check = new Derived(kind, first, second, t, all);
        return addRule(kind, a, kind == JOINED ? b : NONE, depth + 1, check);
    }

    private int addRule(int kind, int first, int second, int depth, Check check) {
        if (made >= rules.length) {
            return TOO_MANY;
        }
        // A rule's object and table outlive fresh(), so that they are made once and used again.
        if (rules[made] == null) {
            rules[made] = new Rule();
        }
        Rule rule = rules[made];
        rule.kind = kind;
        rule.first = first;
        rule.second = second;
        rule.depth = depth;
        rule.fill(all, check);
        made++;
        return made - 1;
    }

    private int thingsThatMayGo(Rule r, int set, int with) {
        int going = 0;
        for (int i = 0; i < things; i++) {
            int bit = 1 << i;
            if ((set & bit) != 0 && r.permits(with & ~bit)) {
                going |= bit;
            }
        }
        return going;
    }

    /** The first thing by weight, then by number, that is not in seen. */
    private int nextByWeight(int seen, boolean light) {
        int best = NONE;
        for (int i = 0; i < things; i++) {
            if ((seen >> i & 1) == 0 && (best < 0 || goesAhead(i, best, light))) {
                best = i;
            }
        }
        return Math.max(best, 0);
    }

    private boolean goesAhead(int thing, int other, boolean light) {
        return light ? weights[thing] < weights[other] : weights[thing] > weights[other];
    }

    /** The least number that is a set with the most things of those that all three allow. */
    private int mostCommon(Rule a, Rule b, Rule c) {
        int best = 0;
        for (int set = 1; set <= all; set++) {
            if (Integer.bitCount(set) > Integer.bitCount(best)
                    && a.permits(set) && b.permits(set) && c.permits(set)) {
                best = set;
            }
        }
        return best;
    }

    /** How many allowed sets it takes, by their size alone, to hold all of a set. */
    private int heapsNeeded(Rule r, int set) {
        int rank = r.rankOf(set);
        return rank > 0 ? (Integer.bitCount(set) + rank - 1) / rank : 0;
    }

    // No set can be dealt out into fewer heaps than it needs, and (Edmonds) all things can be
    // dealt out into as many as the neediest set needs: that set is the crowd, its need fewest.
    private int mostCrowded(Rule r) {
        int crowd = 1;
        int need = heapsNeeded(r, crowd);
        for (int set = 2; set <= all; set++) {
            int here = heapsNeeded(r, set);
            if (here > need) {
                crowd = set;
                need = here;
            }
        }
        return crowd;
    }

    private int numberInDeal(Rule r, int thing) {
        int allHeaps = heapsNeeded(r, mostCrowded(r));
        int used = 0;
        int number = 0;
        for (int i = 0; i <= thing && used < heaps.length; i++) {
            number = heapThatMayTake(r, i, used, allHeaps);
            if (number == used) {
                heaps[used] = 1 << i;
                used++;
            }
        }
        return number;
    }

    /**
     * The first used heap that can take the thing (it is put there), else the next unused one:
     * the deal so far can be ended, so one of these can take it.
     */
    private int heapThatMayTake(Rule r, int thing, int used, int allHeaps) {
        for (int j = 0; j < used; j++) {
            int before = heaps[j];
            heaps[j] = before | 1 << thing;
            if (r.permits(heaps[j]) && restCanBeDealt(r, thing + 1, used, allHeaps)) {
                return j;
            }
            heaps[j] = before;
        }
        return used;
    }

    // The things from a number on can be dealt out onto the heaps just if no set of them is more
    // than the heaps have room for, each heap counted by itself (Edmonds).
    private boolean restCanBeDealt(Rule r, int from, int used, int allHeaps) {
        for (int high = 0; high <= all >> from; high++) {
            int set = high << from;
            if (roomFor(r, set, used, allHeaps) < Integer.bitCount(set)) {
                return false;
            }
        }
        return true;
    }

    private int roomFor(Rule r, int set, int used, int allHeaps) {
        int room = (allHeaps - used) * r.rankOf(set);
        for (int j = 0; j < used; j++) {
            room += r.rankOf(heaps[j] | set) - Integer.bitCount(heaps[j]);
        }
        return room;
    }

    /** A place for one row of numbers, which may have nothing. */
    private static final class Slot {
        private final long[] numbers = new long[MOST_NUMBERS];
        private int width = NONE;
        private int size;

        boolean hasRow() {
            return width != NONE;
        }

        void lay(int newWidth, int n) {
            width = newWidth;
            size = Math.min(n, numbers.length);
            for (int i = 0; i < size; i++) {
                numbers[i] = 0;
            }
        }

        void clear() {
            width = NONE;
            size = 0;
        }

        boolean hasStretch(int from, int n) {
            return from >= 0 && n >= 0 && n <= size && from <= size - n;
        }

        long number(int i) {
            return i >= 0 && i < size ? numbers[i] : 0;
        }

        void put(int i, long v) {
            if (i >= 0 && i < size) {
                numbers[i] = cut(v);
            }
        }

        private long cut(long v) {
            switch (width) {
                case 0:
                    return (byte) v;
                case 1:
                    return (short) v;
                case 2:
                    return (int) v;
                default:
                    return v;
            }
        }
    }

    /** Goes through a row one number after another and keeps the first refusal. */
    private static final class Reading {
        private Slot source;
        private int at;
        private int refusal;

        void start(Slot slot) {
            source = slot;
            at = 0;
            refusal = 0;
        }

        /** The next number if it lies within the two bounds; low, once anything was refused. */
        int next(int low, int high) {
            if (refusal != 0) {
                return low;
            }
            if (source == null || !source.hasStretch(at, 1)) {
                refusal = NO_SUCH_NUMBER;
                return low;
            }
            long v = source.number(at);
            at++;
            if (v < low || v > high) {
                refusal = NOT_AS_TOLD;
                return low;
            }
            return (int) v;
        }

        void refuseLast() {
            if (refusal == 0) {
                refusal = NOT_AS_TOLD;
            }
        }
    }

    /** Tells of a set all of whose smaller parts are allowed whether it is allowed itself. */
    private interface Check {
        boolean fits(int set);
    }

    /** A rule, as the rank that it gives each set. */
    private static final class Rule {
        private int kind;
        private int first;
        private int second;
        private int depth;
        private byte[] ranks = new byte[1];

        void fill(int all, Check check) {
            if (all >= ranks.length) {
                ranks = new byte[all + 1];
            }
            ranks[0] = 0;
            for (int set = 1; set <= all && set < ranks.length; set++) {
                ranks[set] = (byte) rankByParts(set, check);
            }
        }

        private int rankByParts(int set, Check check) {
            int size = Integer.bitCount(set);
            int greatest = 0;
            int least = size;
            for (int i = 0; i < MOST_THINGS; i++) {
                if ((set >> i & 1) != 0) {
                    int without = rankOf(set & ~(1 << i));
                    greatest = Math.max(greatest, without);
                    least = Math.min(least, without);
                }
            }
            return least == size - 1 && check.fits(set) ? size : greatest;
        }

        int rankOf(int set) {
            return set >= 0 && set < ranks.length ? ranks[set] : 0;
        }

        boolean permits(int set) {
            return rankOf(set) == Integer.bitCount(set);
        }

        boolean permitsEachAlone(int things) {
            for (int i = 0; i < things; i++) {
                if (!permits(1 << i)) {
                    return false;
                }
            }
            return true;
        }

        int allowedSets(int all) {
            int found = 0;
            for (int set = 0; set <= all; set++) {
                if (permits(set)) {
                    found++;
                }
            }
            return found;
        }
    }

    /** Sets told one by one, with what was last found to break the law. */
    private static final class Told implements Check {
        private static final int SETS = 4096;

        private final long[] marks = new long[SETS / 64];
        private final int[] sets = new int[MOST_TOLD];
        private int size;
        private int brokenPart;
        private int brokenFirst;
        private int brokenSecond;

        void forgetBreach() {
            noteBreach(0, 0, 0);
        }

        void readSets(Reading reading, int all) {
            for (int i = 0; i < marks.length; i++) {
                marks[i] = 0;
            }
            int howMany = reading.next(0, MOST_TOLD);
            for (int i = 0; i < howMany; i++) {
                int set = reading.next(0, all);
                if (set >> 6 < marks.length) {
                    marks[set >> 6] |= 1L << (set & 63);
                }
            }
        }

        public boolean fits(int set) {
            return set >= 0 && set < SETS && (marks[set >> 6] >> (set & 63) & 1) != 0;
        }

        boolean breaksLaw(int all) {
            listSets(all);
            if (!fits(0)) {
                noteBreach(1, 0, 0);
                return true;
            }
            return lacksPart() || lacksExchange();
        }

        private void noteBreach(int part, int first, int second) {
            brokenPart = part;
            brokenFirst = first;
            brokenSecond = second;
        }

        private void listSets(int all) {
            size = 0;
            for (int set = 0; set <= all && size < sets.length; set++) {
                if (fits(set)) {
                    sets[size] = set;
                    size++;
                }
            }
        }

        private boolean lacksPart() {
            for (int i = 0; i < size; i++) {
                int part = leastPartNotTold(sets[i]);
                if (part != NONE) {
                    noteBreach(2, sets[i], part);
                    return true;
                }
            }
            return false;
        }

        private int leastPartNotTold(int set) {
            int part = 0;
            for (int step = 0; step < SETS && part < set; step++) {
                if (!fits(part)) {
                    return part;
                }
                part = (part - set) & set;
            }
            return NONE;
        }

        private boolean lacksExchange() {
            for (int i = 0; i < size; i++) {
                int second = leastWithNoneToCome(sets[i]);
                if (second != NONE) {
                    noteBreach(3, sets[i], second);
                    return true;
                }
            }
            return false;
        }

        private int leastWithNoneToCome(int first) {
            int comers = thingsThatMayCome(first);
            for (int i = 0; i < size; i++) {
                boolean more = Integer.bitCount(sets[i]) > Integer.bitCount(first);
                if (more && (sets[i] & comers) == 0) {
                    return sets[i];
                }
            }
            return NONE;
        }

        private int thingsThatMayCome(int set) {
            int comers = 0;
            for (int i = 0; i < MOST_THINGS; i++) {
                int with = set | 1 << i;
                if (with != set && fits(with)) {
                    comers |= 1 << i;
                }
            }
            return comers;
        }
    }

    /** At most so many things of each of some sets. */
    private static final class Bounds implements Check {
        private final int[] sets = new int[MOST_NESTED];
        private final int[] limits = new int[MOST_NESTED];
        private int size;

        void readEven(Reading reading, int all) {
            size = 1;
            sets[0] = all;
            limits[0] = reading.next(0, MOST_BOUND);
        }

        void readParts(Reading reading, int things) {
            for (int i = 0; i < sets.length; i++) {
                sets[i] = 0;
            }
            size = 0;
            for (int i = 0; i < things; i++) {
                int part = reading.next(0, LAST_PART);
                sets[part] |= 1 << i;
                size = Math.max(size, part + 1);
            }
            for (int i = 0; i < size; i++) {
                limits[i] = reading.next(0, MOST_BOUND);
            }
        }

        void readNested(Reading reading, int all) {
            size = reading.next(0, MOST_NESTED);
            for (int i = 0; i < size; i++) {
                sets[i] = reading.next(0, all);
                limits[i] = reading.next(0, MOST_BOUND);
            }
        }

        boolean lieNested() {
            for (int i = 0; i < size; i++) {
                for (int j = 0; j < i; j++) {
                    int shared = sets[i] & sets[j];
                    if (shared != 0 && shared != sets[i] && shared != sets[j]) {
                        return false;
                    }
                }
            }
            return true;
        }

        public boolean fits(int set) {
            for (int i = 0; i < size; i++) {
                if (Integer.bitCount(set & sets[i]) > limits[i]) {
                    return false;
                }
            }
            return true;
        }
    }

    /**
     * Things that reach ends or places, each a bit. Where every part of a set reaches as many
     * places as it has things, all can have one (Hall); where every part but the empty one reaches
     * more ends than it has edges, there is no ring.
     */
    private static final class Reaches implements Check {
        private final int[] reached = new int[MOST_THINGS];
        private int spare;

        void readEdges(Reading reading, int things) {
            spare = 1;
            for (int i = 0; i < things && i < reached.length; i++) {
                int end = reading.next(0, LAST_END);
                int other = reading.next(0, LAST_END);
                reached[i] = 1 << end | 1 << other;
            }
        }

        void readPlaces(Reading reading, int things) {
            spare = 0;
            for (int i = 0; i < things && i < reached.length; i++) {
                reached[i] = reading.next(0, ALL_PLACES);
            }
        }

        public boolean fits(int set) {
            int together = 0;
            for (int i = 0; i < reached.length; i++) {
                if ((set >> i & 1) != 0) {
                    together |= reached[i];
                }
            }
            return Integer.bitCount(together) >= Integer.bitCount(set) + spare;
        }
    }

    /**
     * Rows of numbers modulo a prime. The sets must be asked for from the least number on, as a
     * rule's table is filled: a set's lowest thing is then reduced by its higher ones, whose
     * reduced rows still stand from the set that has just these.
     */
    private static final class Vectors implements Check {
        private final int[][] rows = new int[MOST_THINGS][MOST_COLUMNS];
        private final int[][] reduced = new int[MOST_THINGS][MOST_COLUMNS];
        private final int[] leads = new int[MOST_THINGS];
        private int prime = 2;
        private int columns = 1;

        void readRows(Reading reading, int things) {
            prime = reading.next(2, 7);
            if (prime == 4 || prime == 6) {
                reading.refuseLast();
            }
            columns = reading.next(1, MOST_COLUMNS);
            for (int i = 0; i < things && i < rows.length; i++) {
                for (int c = 0; c < columns; c++) {
                    rows[i][c] = reading.next(0, prime - 1);
                }
            }
        }

        public boolean fits(int set) {
            if (set <= 0 || set >> MOST_THINGS != 0) {
                return set == 0;
            }
            int lowest = Integer.bitCount((set & -set) - 1);
            for (int c = 0; c < columns; c++) {
                reduced[lowest][c] = rows[lowest][c];
            }
            for (int i = MOST_THINGS - 1; i > lowest; i--) {
                if ((set >> i & 1) != 0) {
                    clearLead(reduced[lowest], reduced[i], leads[i]);
                }
            }
            leads[lowest] = firstNotZero(reduced[lowest]);
            return leads[lowest] != NONE;
        }

        /** Makes the row's number in the other one's leading column 0 by multiples of both. */
        private void clearLead(int[] row, int[] other, int lead) {
            if (lead < 0 || lead >= columns) {
                return;
            }
            int times = other[lead];
            int taken = prime - row[lead];
            for (int c = 0; c < columns; c++) {
                row[c] = modulo(times * row[c] + taken * other[c]);
            }
        }

        private int modulo(int number) {
            return prime > 0 ? number % prime : 0;
        }

        private int firstNotZero(int[] row) {
            for (int c = 0; c < columns; c++) {
                if (row[c] != 0) {
                    return c;
                }
            }
            return NONE;
        }
    }

    /** A rule made of one rule or of two (of one: it stands for both). */
    private static final class Derived implements Check {
        private final int kind;
        private final Rule first;
        private final Rule second;
        private final int t;
        private final int all;

        Derived(int kind, Rule first, Rule second, int t, int all) {
            this.kind = kind;
            this.first = first;
            this.second = second;
            this.t = t;
            this.all = all;
        }

        public boolean fits(int set) {
            int size = Integer.bitCount(set);
            switch (kind) {
                case LESS:
                    return (set & t) == 0 && first.rankOf(set) == size;
                case TAKEN:
                    return (set & t) == 0 && first.rankOf(set | t) == first.rankOf(t) + size;
                case TURNED:
                    return first.rankOf(all & ~set) == first.rankOf(all);
                default:
                    // A set is put together from both just if no part of it has more things than
                    // the two ranks of that part allow (Edmonds and Nash-Williams).
                    return first.rankOf(set) + second.rankOf(set) >= size;
            }
        }
    }
}
