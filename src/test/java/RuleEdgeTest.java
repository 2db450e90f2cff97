import java.util.Arrays;

/** Promise 9 and the kinds 1 to 6, each boundary that they name and either side of it. */
public final class RuleEdgeTest {
    public static void main(String[] args) {
        slotsAndKinds();
        atMost24();
        firstRefusal();
        numbersOfEveryWidth();
        even();
        parts();
        partsTellHowManyBounds();
        nested();
        nestedSetsThatLieOtherwise();
        edges();
        ringOfTwelveEdges();
        rows();
        rowsThatAreSums();
        places();
        twelvePlaces();
        rulesNeverChange();
        Due.done();
    }

    /**
     * Number i of a row must be from low to high: whatever is outside is refused by -4, even if the
     * row ends behind it; what is inside is not refused, with a row that has all numbers.
     */
    private static void number(int n, int kind, int i, long low, long high, long... numbers) {
        String what = "9: kind " + kind + " of " + n + ", number " + i + ": ";
        long[] inside = {low, high};
        for (long v : inside) {
            Due.is(what + v, Due.rule(Due.desk(n), kind, with(numbers, i, v)), 0);
        }
        long[] outside = {low - 1, high + 1, low - (1L << 32), low + (1L << 32), Long.MIN_VALUE, Long.MAX_VALUE};
        for (long v : outside) {
            IndependenceDesk desk = Due.desk(n);
            Due.is(what + v, Due.rule(desk, kind, with(numbers, i, v)), -4);
            Due.is(what + v + ", then an end", Due.rule(desk, kind, with(Arrays.copyOf(numbers, i + 1), i, v)), -4);
            Due.is("9: no rule comes of " + v, desk.count(1), 0);
        }
    }

    private static long[] with(long[] numbers, int i, long v) {
        long[] changed = numbers.clone();
        changed[i] = v;
        return changed;
    }

    /** A row must have all these numbers; what is behind them does not matter. */
    private static void needsJust(int n, int kind, long... numbers) {
        String what = "9: kind " + kind + " of " + n + " with ";
        for (int size = 0; size < numbers.length; size++) {
            Due.is(what + size + " numbers", Due.rule(Due.desk(n), kind, Arrays.copyOf(numbers, size)), -6);
        }
        IndependenceDesk desk = Due.desk(n);
        Due.is(what + "just all numbers", Due.rule(desk, kind, numbers), 0);
        long[] more = with(Arrays.copyOf(numbers, numbers.length + 1), numbers.length, Long.MAX_VALUE);
        Due.is(what + "one behind them", Due.rule(desk, kind, more), 1);
        Due.is(what + "one behind them: the same", desk.same(0, 1), 1);
        long[] whole = Arrays.copyOf(numbers, 200);
        Arrays.fill(whole, numbers.length, 200, -1);
        Due.lay(desk, 0, 3, whole);
        Due.is(what + "200 in all", desk.rule(kind, 0), 2);
        Due.is(what + "200 in all: the same", desk.same(0, 2), 1);
    }

    private static void slotsAndKinds() {
        IndependenceDesk desk = Due.desk(1);
        for (int slot = 0; slot <= 9; slot++) {
            Due.lay(desk, slot, 0, 2, 1, 0, 0, 0);
        }
        Due.justWithin("9: a slot", 0, 9, -2, slot -> desk.rule(1, slot));
        Due.justWithin("9: a kind", 0, 6, -2, kind -> desk.rule(kind, 0));
        for (int kind = 7; kind <= 11; kind++) {
            Due.is("9: kind " + kind + " is not made of a row", desk.rule(kind, 0), -2);
        }
    }

    private static void atMost24() {
        IndependenceDesk desk = Due.desk(1);
        Due.lay(desk, 0, 0, 1);
        for (int i = 0; i < 24; i++) {
            Due.is("9: a rule's number", desk.rule(1, 0), i);
        }
        Due.is("9: there are 24", desk.rule(1, 0), -8);
        Due.is("9: still", desk.rule(1, 0), -8);
        Due.is("9: the last of them", desk.look(23, 0), 1);
        Due.is("9: none behind it", desk.look(24, 0), -1);
    }

    private static void firstRefusal() {
        IndependenceDesk desk = Due.desk(3);
        Due.is("9: no slot, no kind", desk.rule(7, 10), -2);
        Due.is("9: no kind, nothing there", desk.rule(7, 0), -2);
        Due.is("9: nothing there", desk.rule(0, 0), -5);
        Due.is("a row of none", desk.row(0, 0, 0), 0);
        for (int kind = 0; kind <= 6; kind++) {
            Due.is("9: a row of none, kind " + kind, desk.rule(kind, 0), -6);
        }
        Due.lay(desk, 1, 1, 1);
        for (int i = 0; i < 23; i++) {
            Due.is("a rule", desk.rule(1, 1), i);
        }
        Due.is("9: 23, nothing there", desk.rule(1, 2), -5);
        Due.is("9: 23, an end", desk.rule(1, 0), -6);
        Due.is("a rule", desk.rule(1, 1), 23);
        Due.is("9: 24, nothing there", desk.rule(1, 2), -8);
        Due.is("9: 24, an end", desk.rule(1, 0), -8);
        Due.is("9: 24, no slot", desk.rule(1, 10), -2);
        Due.is("9: 24, no kind", desk.rule(-1, 0), -2);
    }

    private static void numbersOfEveryWidth() {
        IndependenceDesk desk = Due.desk(12);
        for (int width = 0; width <= 3; width++) {
            Due.lay(desk, width, width, 11);
            Due.is("9: of width " + width, desk.rule(1, width), width);
            Due.is("9: is the same", desk.same(0, width), 1);
        }
        Due.lay(desk, 4, 1, 1, 4095, 11);
        Due.is("9: all of 12 things in two bytes", desk.rule(3, 4), 4);
        Due.is("9: is the same as k 11", desk.same(0, 4), 1);
        Due.lay(desk, 5, 0, 256 + 11);
        Due.is("9: a number that was cut", desk.rule(1, 5), 5);
        Due.is("9: is what is left", desk.same(0, 5), 1);
        Due.lay(desk, 6, 0, 1, 200, 1);
        Due.is("9: what is cut to a number below 0", desk.rule(3, 6), -4);
    }

    private static void even() {
        int[] sizes = {1, 8, 12};
        for (int n : sizes) {
            number(n, 1, 0, 0, 12, 1);
            needsJust(n, 1, 1);
            for (int k = 0; k <= 12; k++) {
                IndependenceDesk desk = Due.desk(n);
                Due.is("terms 2: k " + k, Due.rule(desk, 1, k), 0);
                Due.is("terms 2: rank of all", desk.look(0, 1), Math.min(k, n));
                if (k <= n) {
                    Due.is("terms 2: k things", desk.allows(0, (1 << k) - 1), 1);
                }
                if (k < n) {
                    Due.is("terms 2: one more", desk.allows(0, (1 << k + 1) - 1), 0);
                }
            }
        }
    }

    private static void parts() {
        needsJust(1, 2, 0, 1);
        needsJust(3, 2, 0, 2, 0, 1, 0, 2);
        number(3, 2, 0, 0, 11, 0, 0, 0, 1, 1, 1, 1, 1, 1, 1, 1, 1, 1, 1, 1);
        number(3, 2, 2, 0, 11, 0, 0, 0, 1, 1, 1, 1, 1, 1, 1, 1, 1, 1, 1, 1);
        number(3, 2, 3, 0, 12, 0, 0, 1, 1, 1);
        number(3, 2, 4, 0, 12, 0, 0, 1, 1, 1);
        long[] twelve = new long[24];
        for (int i = 0; i < 12; i++) {
            twelve[i] = 11 - i;
            twelve[12 + i] = i % 2;
        }
        needsJust(12, 2, twelve);
        number(12, 2, 11, 0, 11, twelve);
        number(12, 2, 23, 0, 12, twelve);
        for (int bound = 0; bound <= 4; bound++) {
            IndependenceDesk desk = Due.desk(4);
            Due.is("terms 2: parts 0, 1, 1, 1", Due.rule(desk, 2, 0, 1, 1, 1, 1, bound), 0);
            for (int set = 0; set < 16; set++) {
                int due = Integer.bitCount(set & 14) <= bound ? 1 : 0;
                Due.is("terms 2: bound " + bound + ", set " + set, desk.allows(0, set), due);
            }
        }
    }

    private static void partsTellHowManyBounds() {
        IndependenceDesk desk = Due.desk(2);
        for (int greatest = 0; greatest <= 11; greatest++) {
            long[] numbers = new long[2 + greatest + 1];
            numbers[greatest % 2] = greatest;
            numbers[numbers.length - 1] = 1;
            Due.is("terms 2: greatest part " + greatest, Due.rule(desk, 2, numbers), greatest);
            Due.is("terms 2: its rank", desk.look(greatest, 1), 1);
            long[] shorter = Arrays.copyOf(numbers, numbers.length - 1);
            Due.is("9: one bound less", Due.rule(desk, 2, shorter), -6);
        }
    }

    private static void nested() {
        int[] sizes = {1, 8, 12};
        for (int n : sizes) {
            int all = (1 << n) - 1;
            needsJust(n, 3, 0);
            needsJust(n, 3, 2, all, 1, 1, 0);
            number(n, 3, 1, 0, all, 1, 0, 1);
            number(n, 3, 2, 0, 12, 1, all, 1);
            number(n, 3, 3, 0, all, 2, all, 1, 0, 1);
            number(n, 3, 4, 0, 12, 2, all, 1, 0, 1);
        }
    }

    /** How many there may be, and how they may lie. */
    private static void nestedSetsThatLieOtherwise() {
        int[] counts = {-1, 0, 1, 39, 40, 41, 99};
        for (int howMany : counts) {
            long[] numbers = new long[200];
            numbers[0] = howMany;
            int due = howMany >= 0 && howMany <= 40 ? 0 : -4;
            Due.is("9: how many: " + howMany, Due.rule(Due.desk(4), 3, numbers), due);
            Due.is("9: then an end", Due.rule(Due.desk(4), 3, howMany), due == 0 && howMany > 0 ? -6 : due);
        }
        for (int a = 0; a < 16; a++) {
            for (int b = 0; b < 16; b++) {
                boolean lies = (a & b) == 0 || (a & b) == a || (a & b) == b;
                IndependenceDesk desk = Due.desk(4);
                int answer = Due.rule(desk, 3, 2, a, 12, b, 12);
                Due.is("9: sets " + a + " and " + b, answer, lies ? 0 : -7);
                Due.is("9: rules", desk.count(1), lies ? 1 : 0);
            }
        }
        long[] last = new long[81];
        last[0] = 40;
        last[1] = 3;
        last[79] = 6;
        Due.is("9: the first and the last of 40", Due.rule(Due.desk(3), 3, last), -7);
        last[79] = 4;
        last[80] = 1;
        IndependenceDesk desk = Due.desk(3);
        Due.is("terms 2: they share nothing", Due.rule(desk, 3, last), 0);
        Due.is("terms 2: the bound of the first", desk.rank(0, 3), 0);
        Due.is("terms 2: the bound of the last", desk.rank(0, 4), 1);
        Due.is("9: an end, ahead of -7", Due.rule(desk, 3, 3, 3, 1, 6, 1, 0), -6);
        Due.is("9: a bound, ahead of -7", Due.rule(desk, 3, 3, 3, 1, 6, 1, 0, 13), -4);
        Due.is("9: a set, ahead of -7", Due.rule(desk, 3, 3, 3, 1, 6, 1, 8, 1), -4);
    }

    private static void edges() {
        needsJust(1, 4, 0, 1);
        needsJust(3, 4, 0, 15, 15, 14, 14, 0);
        number(1, 4, 0, 0, 15, 1, 2);
        number(1, 4, 1, 0, 15, 1, 2);
        long[] twelve = new long[24];
        Arrays.fill(twelve, 15);
        needsJust(12, 4, twelve);
        number(12, 4, 22, 0, 15, twelve);
        number(12, 4, 23, 0, 15, twelve);
        for (int end = 0; end <= 15; end++) {
            IndependenceDesk desk = Due.desk(3);
            int next = (end + 1) % 16;
            Due.is("edges", Due.rule(desk, 4, end, end, end, next, next, end), 0);
            Due.is("terms 2: from an end to itself", desk.allows(0, 1), 0);
            Due.is("terms 2: from one to another", desk.allows(0, 2), 1);
            Due.is("terms 2: and back", desk.allows(0, 4), 1);
            Due.is("terms 2: two between the same", desk.allows(0, 6), 0);
        }
    }

    private static void ringOfTwelveEdges() {
        long[] ring = new long[24];
        for (int i = 0; i < 12; i++) {
            ring[2 * i] = i;
            ring[2 * i + 1] = (i + 1) % 12;
        }
        IndependenceDesk desk = Due.desk(12);
        Due.is("ring", Due.rule(desk, 4, ring), 0);
        Due.is("terms 2: a ring of all", desk.allows(0, 4095), 0);
        Due.is("terms 2: whatever is less is none", desk.look(0, 2), 4095);
        ring[23] = 12;
        Due.is("path", Due.rule(desk, 4, ring), 1);
        Due.is("terms 2: a path has no ring", desk.allows(1, 4095), 1);
    }

    private static void rows() {
        int[] primes = {2, 3, 5, 7};
        for (int v = -1; v <= 14; v++) {
            final int prime = v;
            boolean isOne = Arrays.stream(primes).anyMatch(p -> p == prime);
            Due.is("9: prime " + v, Due.rule(Due.desk(2), 5, v, 1, 0, 1), isOne ? 0 : -4);
            Due.is("9: prime " + v + ", then an end", Due.rule(Due.desk(2), 5, v), isOne ? -6 : -4);
        }
        for (int p : primes) {
            number(3, 5, 2, 0, p - 1, p, 1, 0, 0, 0);
            number(3, 5, 4, 0, p - 1, p, 1, 0, 0, 0);
            number(1, 5, 1, 1, 6, p, 1, 0, 1, 0, 1, 0, 1);
            needsJust(2, 5, p, 2, 1, p - 1, 0, 1);
        }
        for (int width = 1; width <= 6; width++) {
            long[] numbers = new long[2 + 12 * width];
            numbers[0] = 7;
            numbers[1] = width;
            numbers[numbers.length - 1] = 6;
            needsJust(12, 5, numbers);
            number(12, 5, numbers.length - 1, 0, 6, numbers);
        }
    }

    private static void rowsThatAreSums() {
        int[] primes = {2, 3, 5, 7};
        for (int p : primes) {
            IndependenceDesk desk = Due.desk(3);
            Due.is("rows", Due.rule(desk, 5, p, 2, 1, 1, p - 1, p - 1, 0, 0), 0);
            Due.is("terms 2: a row of zeros is the sum of none", desk.allows(0, 4), 0);
            Due.is("terms 2: a multiple of the other", desk.allows(0, 3), 0);
            Due.is("terms 2: alone", desk.allows(0, 2), 1);
            Due.is("rows", Due.rule(desk, 5, p, 2, 1, 0, 0, p - 1, p - 1, 1), 1);
            Due.is("terms 2: two are free", desk.look(1, 2), 7);
        }
        long[] units = new long[2 + 7 * 6];
        units[0] = 3;
        units[1] = 6;
        for (int c = 0; c < 6; c++) {
            units[2 + 6 * c + c] = 1;
            units[2 + 6 * 6 + c] = 2;
        }
        IndependenceDesk desk = Due.desk(7);
        Due.is("six unlike ones and twice their sum", Due.rule(desk, 5, units), 0);
        Due.is("terms 2: all six", desk.allows(0, 63), 1);
        Due.is("terms 2: the sum needs each of them", desk.look(0, 2), 127);
        Due.is("terms 2: and is one with them", desk.allows(0, 127), 0);
    }

    private static void places() {
        int[] sizes = {1, 8, 12};
        for (int n : sizes) {
            long[] numbers = new long[n];
            needsJust(n, 6, numbers);
            number(n, 6, 0, 0, 4095, numbers);
            number(n, 6, n - 1, 0, 4095, numbers);
        }
        for (int place = 0; place < 12; place++) {
            IndependenceDesk desk = Due.desk(3);
            Due.is("places", Due.rule(desk, 6, 1 << place, 1 << place, 0), 0);
            Due.is("terms 2: it has place " + place, desk.allows(0, 1), 1);
            Due.is("terms 2: just one of two", desk.allows(0, 3), 0);
            Due.is("terms 2: no place", desk.allows(0, 4), 0);
        }
    }

    private static void twelvePlaces() {
        long[] numbers = new long[12];
        IndependenceDesk desk = Due.desk(12);
        Arrays.fill(numbers, 4095);
        Due.is("twelve places", Due.rule(desk, 6, numbers), 0);
        Due.is("terms 2: all have one", desk.allows(0, 4095), 1);
        Arrays.fill(numbers, 2047);
        Due.is("eleven places", Due.rule(desk, 6, numbers), 1);
        Due.is("terms 2: one has none", desk.allows(1, 4095), 0);
        Due.is("terms 2: whatever is less has", desk.look(1, 2), 4095);
        for (int i = 0; i < 12; i++) {
            numbers[i] = 1L << i | 1L << Math.max(i - 1, 0);
        }
        Due.is("each its own and the one ahead", Due.rule(desk, 6, numbers), 2);
        Due.is("terms 2: all have their own", desk.allows(2, 4095), 1);
        numbers[0] = 1L << 11;
        Due.is("the first has the last one's", Due.rule(desk, 6, numbers), 3);
        Due.is("terms 2: all move", desk.allows(3, 4095), 1);
        numbers[0] = 0;
        Due.is("the first has none", Due.rule(desk, 6, numbers), 4);
        Due.is("terms 2: the others have", desk.allows(4, 4094), 1);
        Due.is("terms 2: the first has not", desk.allows(4, 1), 0);
    }

    private static void rulesNeverChange() {
        IndependenceDesk desk = Due.desk(3);
        Due.lay(desk, 0, 0, 1, 7, 2);
        Due.is("a rule", desk.rule(3, 0), 0);
        Due.is("another of the same row", desk.rule(1, 0), 1);
        Due.is("write", desk.write(0, 0, 0), 0);
        Due.is("terms 1: the first is what it was", desk.look(0, 2), 7);
        Due.is("torn", desk.tear(0), true);
        Due.is("terms 1: the second is what it was", desk.look(1, 2), 4);
        Due.is("a weight", desk.weight(0, 9), 1);
        Due.is("refused", Due.rule(desk, 3, 2, 3, 0, 6, 0), -7);
        Due.is("terms 1: the first again", desk.look(0, 2), 7);
    }
}
