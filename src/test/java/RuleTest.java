/** Promises 9, 14 and 15: rule, broken, look. */
public final class RuleTest {
    public static void main(String[] args) {
        refusalsInOrder();
        told();
        even();
        parts();
        nested();
        edges();
        rows();
        places();
        rulesNeverChange();
        broken();
        look();
        Due.done();
    }

    /** Every row that is as these numbers, but shorter, ends ahead of a number. */
    private static void needsAll(int n, int kind, long... numbers) {
        IndependenceDesk desk = Due.desk(n);
        for (int size = 0; size < numbers.length; size++) {
            long[] cut = java.util.Arrays.copyOf(numbers, size);
            Due.is("kind " + kind + " with " + size + " numbers", Due.rule(desk, kind, cut), -6);
        }
        Due.is("kind " + kind + " with all numbers", Due.rule(desk, kind, numbers), 0);
        long[] longer = java.util.Arrays.copyOf(numbers, numbers.length + 1);
        longer[numbers.length] = Long.MIN_VALUE;
        Due.is("kind " + kind + " with one behind", Due.rule(desk, kind, longer), 1);
        Due.is("it is the same", desk.same(0, 1), 1);
    }

    /** A row whose last number, number i, is refused by -4 (though more would have to follow). */
    private static void notAsTold(int n, int kind, int i, long wrong, long... numbers) {
        IndependenceDesk desk = Due.desk(n);
        long[] changed = java.util.Arrays.copyOf(numbers, i + 1);
        changed[i] = wrong;
        Due.is("kind " + kind + ", number " + i + " is " + wrong, Due.rule(desk, kind, changed), -4);
        Due.is("no rule was made", desk.count(1), 0);
    }

    private static void refusalsInOrder() {
        IndependenceDesk desk = Due.desk(3);
        for (int wrong : Due.WRONG_NUMBERS) {
            Due.is("slot " + wrong, desk.rule(1, wrong), -2);
            Due.is("kind " + wrong, desk.rule(wrong, 0), -2);
        }
        Due.is("kind 7", desk.rule(7, 0), -2);
        Due.is("slot 10", desk.rule(1, 10), -2);
        Due.is("nothing", desk.rule(1, 0), -5);
        for (int i = 0; i < 24; i++) {
            Due.is("a rule", Due.rule(desk, 1, i % 4), i);
        }
        Due.is("no kind, of 24", desk.rule(7, 9), -2);
        Due.is("of 24, nothing in the slot", desk.rule(1, 0), -8);
        Due.is("of 24, not as told", Due.rule(desk, 1, 13), -8);
        Due.is("24 rules", desk.count(1), 24);
        Due.is("less, of 24", desk.less(0, 0), -8);
        Due.is("less, no such set, of 24", desk.less(0, 8), -2);
    }

    private static void told() {
        needsAll(2, 0, 3, 0, 1, 2);
        notAsTold(3, 0, 0, 151);
        notAsTold(3, 0, 0, -1);
        notAsTold(3, 0, 2, 8, 5, 0);
        notAsTold(3, 0, 1, -1, 5);
        notAsTold(3, 0, 1, 1L << 32, 5);
        IndependenceDesk desk = Due.desk(3);
        Due.is("told twice is told", Due.rule(desk, 0, 4, 2, 0, 2, 0), 0);
        Due.is("two sets", desk.look(0, 2), 2);
        Due.is("just these", desk.allows(0, 2), 1);
        Due.is("no other", desk.allows(0, 1), 0);
        long[] many = new long[151];
        many[0] = 150;
        Due.is("150 sets", Due.rule(desk, 0, many), 1);
        Due.is("they are the empty one", desk.look(1, 2), 1);
    }

    private static void even() {
        needsAll(5, 1, 3);
        notAsTold(5, 1, 0, 13);
        notAsTold(5, 1, 0, -1);
        IndependenceDesk desk = Due.desk(12);
        Due.is("k 12", Due.rule(desk, 1, 12), 0);
        Due.is("all sets", desk.look(0, 2), 4096);
        Due.is("k 0", Due.rule(desk, 1, 0), 1);
        Due.is("the empty set", desk.look(1, 2), 1);
        Due.is("k 6", Due.rule(desk, 1, 6), 2);
        Due.is("six of 12", desk.look(2, 2), 1 + 12 + 66 + 220 + 495 + 792 + 924);
    }

    private static void parts() {
        needsAll(3, 2, 2, 0, 2, 1, 0, 2);
        notAsTold(3, 2, 0, 12);
        notAsTold(3, 2, 2, -1, 0, 0);
        notAsTold(3, 2, 3, 13, 0, 0, 0);
        notAsTold(3, 2, 4, -1, 0, 0, 1, 0);
        IndependenceDesk desk = Due.desk(4);
        Due.is("parts", Due.rule(desk, 2, 11, 0, 11, 11, 0, 0, 0, 0, 0, 0, 0, 0, 0, 0, 0, 2), 0);
        Due.is("two of part 11", desk.allows(0, 0b1001), 1);
        Due.is("three of part 11", desk.allows(0, 0b1101), 0);
        Due.is("one of part 0", desk.allows(0, 0b0010), 0);
    }

    private static void nested() {
        needsAll(4, 3, 2, 3, 1, 15, 2);
        notAsTold(4, 3, 0, 41);
        notAsTold(4, 3, 0, -1);
        notAsTold(4, 3, 1, 16, 2);
        notAsTold(4, 3, 2, 13, 2, 3);
        notAsTold(4, 3, 3, -1, 2, 3, 1);
        IndependenceDesk desk = Due.desk(4);
        Due.is("none", Due.rule(desk, 3, 0), 0);
        Due.is("all are allowed", desk.look(0, 2), 16);
        Due.is("alike, within and apart", Due.rule(desk, 3, 5, 3, 1, 3, 2, 12, 1, 15, 2, 0, 0), 1);
        Due.is("one of each", desk.allows(1, 0b0101), 1);
        Due.is("two of 3", desk.allows(1, 0b0011), 0);
        Due.is("-7 of the last two", Due.rule(desk, 3, 3, 15, 1, 3, 1, 6, 1), -7);
        Due.is("a wrong number ahead of -7", Due.rule(desk, 3, 3, 3, 1, 6, 1, 1, 13), -4);
        Due.is("an end ahead of -7", Due.rule(desk, 3, 3, 3, 1, 6, 1), -6);
        long[] many = new long[81];
        many[0] = 40;
        Due.is("40 empty sets", Due.rule(desk, 3, many), 2);
        Due.is("a bound of the empty set", desk.look(2, 2), 16);
    }

    private static void edges() {
        needsAll(3, 4, 0, 1, 1, 15, 15, 0);
        notAsTold(3, 4, 0, 16);
        notAsTold(3, 4, 5, -1, 0, 1, 1, 2, 2);
        IndependenceDesk desk = Due.desk(5);
        Due.is("edges", Due.rule(desk, 4, 3, 3, 0, 15, 15, 0, 0, 1, 1, 15), 0);
        Due.is("from an end to itself", desk.allows(0, 0b00001), 0);
        Due.is("two from the same to the same", desk.allows(0, 0b00110), 0);
        Due.is("a ring of three", desk.allows(0, 0b11010), 0);
        Due.is("no ring", desk.allows(0, 0b11000), 1);
        Due.is("seven sets", desk.look(0, 2), 1 + 4 + 5);
    }

    private static void rows() {
        needsAll(2, 5, 5, 2, 1, 4, 4, 1);
        long[] primes = {2, 3, 5, 7};
        for (long prime : primes) {
            IndependenceDesk desk = Due.desk(3);
            Due.is("prime " + prime, Due.rule(desk, 5, prime, 2, 1, 0, 0, 1, prime - 1, prime - 1), 0);
            Due.is("any two", desk.look(0, 2), 7);
            notAsTold(3, 5, 2, prime, prime, 1);
            notAsTold(3, 5, 2, -1, prime, 1);
        }
        long[] others = {-1, 0, 1, 4, 6, 8, 11};
        for (long other : others) {
            notAsTold(3, 5, 0, other);
        }
        notAsTold(3, 5, 1, 0, 7);
        notAsTold(3, 5, 1, 7, 7);
        IndependenceDesk desk = Due.desk(2);
        Due.is("prime 4, then an end", Due.rule(desk, 5, 4), -4);
        Due.is("a row of zeros", Due.rule(desk, 5, 7, 1, 0, 6), 0);
        Due.is("is not free", desk.allows(0, 1), 0);
        Due.is("another is", desk.allows(0, 2), 1);
        widestRows();
    }

    /** Rows 1, x, x*x .. of seven unlike x modulo 7: any six of them are free. */
    private static void widestRows() {
        long[] numbers = new long[2 + 12 * 6];
        numbers[0] = 7;
        numbers[1] = 6;
        for (int i = 0; i < 12; i++) {
            long power = 1;
            for (int c = 0; c < 6; c++) {
                numbers[2 + 6 * i + c] = power;
                power = power * (i % 7) % 7;
            }
        }
        for (int from = 0; from < 4096; from += 256) {
            IndependenceDesk desk = Due.desk(12);
            Due.is("widest rows", Due.rule(desk, 5, numbers), 0);
            for (int set = from; set < from + 256; set++) {
                int unlike = (set | set >> 7) & 127;
                Due.is("rank of " + set, desk.rank(0, set), Math.min(6, Integer.bitCount(unlike)));
            }
        }
    }

    private static void places() {
        needsAll(3, 6, 1, 4095, 0);
        notAsTold(3, 6, 0, 4096);
        notAsTold(3, 6, 2, -1, 1, 1);
        IndependenceDesk desk = Due.desk(4);
        Due.is("places", Due.rule(desk, 6, 3, 3, 2049, 0), 0);
        Due.is("three have one", desk.allows(0, 0b0111), 1);
        Due.is("one has none", desk.allows(0, 0b1000), 0);
        Due.is("three of two places", Due.rule(desk, 6, 3, 3, 3, 2048), 1);
        Due.is("cannot", desk.allows(1, 0b0111), 0);
        Due.is("with another place", desk.allows(1, 0b1011), 1);
    }

    private static void rulesNeverChange() {
        IndependenceDesk desk = Due.desk(4);
        Due.is("a rule", Due.rule(desk, 1, 1), 0);
        Due.is("another of the slot", Due.rule(desk, 1, 3), 1);
        Due.is("edges", Due.rule(desk, 4, 0, 1, 0, 1, 2, 3, 2, 3), 2);
        Due.is("places", Due.rule(desk, 6, 1, 2, 4, 8), 3);
        Due.is("parts", Due.rule(desk, 2, 0, 0, 0, 0, 2), 4);
        desk.tear(9);
        Due.is("the first", desk.look(0, 1), 1);
        Due.is("the second", desk.look(1, 1), 3);
        Due.is("edges stay", desk.rank(2, 15), 2);
        Due.is("places stay", desk.rank(3, 15), 4);
        Due.is("parts stay", desk.rank(4, 15), 2);
    }

    private static void broken() {
        IndependenceDesk desk = Due.desk(3);
        isBroken(desk, 0, 0, 0);
        Due.is("none told", Due.rule(desk, 0, 0), -9);
        isBroken(desk, 1, 0, 0);
        Due.is("7, 3 without parts", Due.rule(desk, 0, 4, 7, 3, 0, 1), -9);
        isBroken(desk, 2, 3, 2);
        Due.is("7 lacks 3 as the least", Due.rule(desk, 0, 5, 0, 1, 2, 4, 7), -9);
        isBroken(desk, 2, 7, 3);
        Due.is("the empty one ahead of a part", Due.rule(desk, 0, 1, 3), -9);
        isBroken(desk, 1, 0, 0);
        Due.is("two of 3, one of 4", Due.rule(desk, 0, 6, 4, 3, 2, 1, 0, 4), -9);
        isBroken(desk, 3, 4, 3);
        Due.is("the least of both", Due.rule(desk, 0, 6, 0, 1, 2, 4, 6, 0), -9);
        isBroken(desk, 3, 1, 6);
        Due.is("another refusal", Due.rule(desk, 0, 1), -6);
        Due.is("another refusal", Due.rule(desk, 0, 1, 8), -4);
        Due.is("a nested refusal", Due.rule(desk, 3, 2, 3, 1, 6, 1), -7);
        isBroken(desk, 3, 1, 6);
        Due.is("a rule that holds", Due.rule(desk, 0, 1, 0), 0);
        isBroken(desk, 3, 1, 6);
        Due.is("what 3", desk.broken(3), -1);
        for (int what : Due.WRONG_NUMBERS) {
            Due.is("what " + what, desk.broken(what), -1);
        }
        desk.fresh(14);
        isBroken(desk, 3, 1, 6);
        desk.fresh(3);
        isBroken(desk, 0, 0, 0);
    }

    private static void isBroken(IndependenceDesk desk, int part, int first, int second) {
        Due.is("broken 0", desk.broken(0), part);
        Due.is("broken 1", desk.broken(1), first);
        Due.is("broken 2", desk.broken(2), second);
    }

    private static void look() {
        IndependenceDesk desk = Due.desk(2);
        long[][] numbers = {{1, 0}, {1}, {0, 0, 1}, {0}, {0, 1, 1, 2}, {2, 1, 1, 1}, {1, 2}};
        int[] ranks = {0, 1, 1, 2, 2, 1, 2};
        int[] sets = {1, 3, 3, 4, 4, 3, 4};
        for (int kind = 0; kind <= 6; kind++) {
            Due.is("rule", Due.rule(desk, kind, numbers[kind]), kind);
            int[] due = {kind, ranks[kind], sets[kind], -1, -1, 1};
            for (int what = 0; what <= 5; what++) {
                Due.is("look " + what + " of kind " + kind, desk.look(kind, what), due[what]);
            }
        }
        Due.is("what 6", desk.look(0, 6), -1);
        Due.is("no rule 7", desk.look(7, 0), -1);
        for (int wrong : Due.WRONG_NUMBERS) {
            Due.is("what " + wrong, desk.look(0, wrong), -1);
            Due.is("rule " + wrong, desk.look(wrong, 0), -1);
        }
    }
}
