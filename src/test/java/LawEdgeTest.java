import java.util.ArrayList;
import java.util.Arrays;
import java.util.List;

/** Kind 0 in promise 9, and promise 14: what is told, and what of the law is broken. */
public final class LawEdgeTest {
    public static void main(String[] args) {
        howMany();
        setsFrom0ToAll();
        oneThing();
        everyFewSets();
        emptySet();
        leastPart();
        leastPair();
        asManyThingsNeedNotCome();
        fullRow();
        fullRowBrokenByTheGreatest();
        whatIs0To2();
        latest();
        Due.done();
    }

    private static long[] told(long... sets) {
        long[] numbers = new long[1 + sets.length];
        numbers[0] = sets.length;
        System.arraycopy(sets, 0, numbers, 1, sets.length);
        return numbers;
    }

    private static void isBroken(IndependenceDesk desk, int part, int first, int second) {
        Due.is("14: which part", desk.broken(0), part);
        Due.is("14: the first set", desk.broken(1), first);
        Due.is("14: the second set", desk.broken(2), second);
    }

    private static void breaks(int n, int part, int first, int second, long... sets) {
        IndependenceDesk desk = Due.desk(n);
        Due.is("9: " + Arrays.toString(sets), Due.rule(desk, 0, told(sets)), -9);
        isBroken(desk, part, first, second);
        Due.is("9: no rule is made", desk.count(1), 0);
    }

    private static void holds(int n, long... sets) {
        for (int from = 0; from < 1 << n; from += 256) {
            IndependenceDesk desk = Due.desk(n);
            Due.is("9: " + Arrays.toString(sets), Due.rule(desk, 0, told(sets)), 0);
            for (int set = from; set < Math.min(from + 256, 1 << n); set++) {
                final int asked = set;
                boolean isTold = Arrays.stream(sets).anyMatch(s -> s == asked);
                Due.is("terms 2: just these, " + set, desk.allows(0, set), isTold ? 1 : 0);
            }
            isBroken(desk, 0, 0, 0);
        }
    }

    private static void howMany() {
        int[] counts = {-1, 0, 1, 2, 149, 150, 151, 199, 200};
        for (int count : counts) {
            IndependenceDesk desk = Due.desk(3);
            long[] numbers = new long[200];
            numbers[0] = count;
            int due = count < 0 || count > 150 ? -4 : count == 0 ? -9 : 0;
            Due.is("9: how many: " + count, Due.rule(desk, 0, numbers), due);
            long[] justThese = Arrays.copyOf(numbers, Math.max(count, 0) + 1);
            if (count <= 150) {
                Due.is("9: just these: " + count, Due.rule(Due.desk(3), 0, justThese), due);
            }
            long[] oneLess = Arrays.copyOf(numbers, Math.max(count, 1));
            Due.is("9: one less than " + count, Due.rule(Due.desk(3), 0, oneLess), due == 0 ? -6 : due);
        }
        Due.is("9: far too many", Due.rule(Due.desk(3), 0, Long.MAX_VALUE, 0), -4);
        Due.is("9: 1 in the lower bytes", Due.rule(Due.desk(3), 0, (1L << 32) + 1, 0), -4);
    }

    private static void setsFrom0ToAll() {
        for (int n = 1; n <= 12; n++) {
            int all = (1 << n) - 1;
            Due.is("9: all is a set", Due.rule(Due.desk(n), 0, 1, all), -9);
            Due.is("9: one more is none", Due.rule(Due.desk(n), 0, 1, all + 1), -4);
            Due.is("9: below 0 is none", Due.rule(Due.desk(n), 0, 1, -1), -4);
            Due.is("9: nor in the last place", Due.rule(Due.desk(n), 0, 2, 0, all + 1), -4);
            Due.is("9: read ahead of an end", Due.rule(Due.desk(n), 0, 150, all + 1), -4);
            Due.is("9: an end, ahead of -9", Due.rule(Due.desk(n), 0, 2, all), -6);
        }
    }

    private static void oneThing() {
        breaks(1, 1, 0, 0);
        breaks(1, 1, 0, 0, 1);
        holds(1, 0);
        holds(1, 1, 0);
        holds(1, 0, 1, 0, 1, 1);
    }

    /** Whatever can be told of two things and of three, against a search by the law's words. */
    private static void everyFewSets() {
        for (int n = 2; n <= 3; n++) {
            int sets = 1 << n;
            for (int choice = 0; choice < 1 << sets; choice++) {
                final int chosen = choice;
                long[] these = java.util.stream.LongStream.range(0, sets)
                        .filter(s -> (chosen >> s & 1) != 0).toArray();
                int[] breach = Naive.of(n, 0, told(these)).breach();
                if (breach[0] != 0) {
                    breaks(n, breach[0], breach[1], breach[2], these);
                } else {
                    holds(n, these);
                }
            }
        }
    }

    private static void emptySet() {
        breaks(3, 1, 0, 0, 1, 2, 4);
        breaks(3, 1, 0, 0, 7, 3);
        breaks(3, 1, 0, 0, 1, 2, 3, 4, 5, 6, 7);
        holds(3, 1, 2, 3, 4, 5, 6, 7, 0);
    }

    private static void leastPart() {
        breaks(3, 2, 7, 6, 7, 5, 4, 3, 2, 1, 0);
        breaks(3, 2, 3, 1, 7, 3, 2, 0);
        breaks(3, 2, 3, 2, 7, 6, 3, 1, 0);
        breaks(3, 2, 5, 1, 6, 5, 0);
        breaks(12, 2, 4095, 1, 4095, 0);
        breaks(12, 2, 2049, 2048, 2049, 1, 0);
    }

    private static void leastPair() {
        breaks(3, 3, 1, 6, 6, 4, 2, 1, 0);
        breaks(3, 3, 2, 5, 5, 4, 2, 1, 0);
        breaks(3, 3, 4, 3, 4, 3, 2, 1, 0);
        breaks(4, 3, 1, 6, 10, 6, 8, 4, 2, 1, 0);
        breaks(4, 3, 1, 12, 12, 3, 8, 4, 2, 1, 0);
        breaks(4, 3, 8, 3, 7, 6, 5, 4, 3, 2, 1, 8, 0);
        breaks(12, 3, 2048, 3, 2048, 3, 2, 1, 0);
    }

    private static void asManyThingsNeedNotCome() {
        holds(2, 0, 1, 2);
        holds(4, 0, 1, 2, 4, 8);
        holds(4, 0, 1, 2, 4, 8, 5, 9, 6, 10);
        holds(3, 0, 2);
        holds(12, 0, 1, 2048, 2049);
    }

    /** One of each of four parts of 1, 2, 4 and 4 things, without thing 11: just 150 sets. */
    private static List<Long> setsOfFourParts() {
        int[] parts = {1, 6, 0x78, 0x780};
        List<Long> sets = new ArrayList<>();
        for (int set = 0; set < 4096; set++) {
            boolean one = (set & 2048) == 0;
            for (int part : parts) {
                one = one && Integer.bitCount(set & part) <= 1;
            }
            if (one) {
                sets.add((long) set);
            }
        }
        Due.is("as many as can be told", sets.size(), 150);
        return sets;
    }

    private static long[] numbers(List<Long> sets) {
        return sets.stream().mapToLong(Long::longValue).toArray();
    }

    private static void fullRow() {
        List<Long> sets = setsOfFourParts();
        holds(12, numbers(sets));
        for (int leftOut = 0; leftOut < 150; leftOut += 10) {
            List<Long> fewer = new ArrayList<>(sets);
            fewer.remove(leftOut);
            long[] these = numbers(fewer);
            int[] breach = Naive.of(12, 0, told(these)).breach();
            breaks(12, breach[0], breach[1], breach[2], these);
        }
    }

    /** Of 150 unlike sets, told the greatest first or last, just the greatest lacks a part. */
    private static void fullRowBrokenByTheGreatest() {
        List<Long> sets = setsOfFourParts();
        sets.remove(149);
        sets.add(2049L);
        breaks(12, 2, 2049, 2048, numbers(sets));
        java.util.Collections.reverse(sets);
        breaks(12, 2, 2049, 2048, numbers(sets));
    }

    private static void whatIs0To2() {
        IndependenceDesk desk = Due.desk(3);
        Due.justWithin("14: what, with none", 0, 2, -1, what -> desk.broken(what));
        Due.is("broken", Due.rule(desk, 0, told(0, 7)), -9);
        Due.justWithin("14: what", 0, 2, -1, what -> desk.broken(what));
        isBroken(desk, 2, 7, 1);
    }

    private static void latest() {
        IndependenceDesk desk = Due.desk(3);
        isBroken(desk, 0, 0, 0);
        Due.is("a part", Due.rule(desk, 0, told(0, 7)), -9);
        isBroken(desk, 2, 7, 1);
        Due.is("a pair", Due.rule(desk, 0, told(0, 1, 2, 3, 4)), -9);
        isBroken(desk, 3, 4, 3);
        Due.is("no slot", desk.rule(0, 10), -2);
        Due.is("nothing there", desk.rule(0, 5), -5);
        Due.is("an end", Due.rule(desk, 0, 1), -6);
        Due.is("no set", Due.rule(desk, 0, 1, 8), -4);
        Due.is("nested otherwise", Due.rule(desk, 3, 2, 3, 1, 6, 1), -7);
        Due.is("one that holds", Due.rule(desk, 0, told(0)), 0);
        Due.is("made of it", desk.turn(0), 1);
        isBroken(desk, 3, 4, 3);
        Due.is("the empty set", Due.rule(desk, 0, told()), -9);
        isBroken(desk, 1, 0, 0);
        for (int i = 2; i < 24; i++) {
            Due.is("one more", desk.turn(0), i);
        }
        Due.is("24, ahead of the law", Due.rule(desk, 0, told(0, 7)), -8);
        isBroken(desk, 1, 0, 0);
        Due.is("refused", desk.fresh(0), false);
        isBroken(desk, 1, 0, 0);
        Due.is("fresh", desk.fresh(3), true);
        isBroken(desk, 0, 0, 0);
    }
}
