import java.util.ArrayList;
import java.util.Arrays;
import java.util.List;
import java.util.Random;

/**
 * Promises 9 to 31 on many rules of every kind, against a search by the definitions. One desk bears
 * all rounds, far more than the 512 calls that are promised, so that whatever one round leaves
 * behind would show in the next.
 */
public final class NaiveTest {
    private static final int ROUNDS = 400;
    private static final int LARGE_ROUNDS = 40;
    private final Random random = new Random(20261116);
    private final IndependenceDesk desk = new IndependenceDesk();
    private final List<Naive> rules = new ArrayList<>();
    private final List<Integer> depths = new ArrayList<>();
    private int n;
    private int[] weights;

    public static void main(String[] args) {
        NaiveTest test = new NaiveTest();
        for (int round = 0; round < ROUNDS; round++) {
            test.round(1 + round % 7);
        }
        for (int round = 0; round < LARGE_ROUNDS; round++) {
            test.round(8 + round % 5);
        }
        Due.done();
    }

    private void round(int things) {
        n = things;
        rules.clear();
        depths.clear();
        Due.is("fresh", desk.fresh(n), true);
        setWeights();
        for (int i = 0; i < 7; i++) {
            addPlain(i);
        }
        addPlain(random.nextInt(7));
        addTold();
        addTold();
        for (int i = 0; i < 12; i++) {
            addMade();
        }
        for (int i = 0; i < rules.size(); i++) {
            askOne(i);
            askTwo(i, random.nextInt(rules.size()), random.nextInt(rules.size()));
        }
        Due.is("count 0", desk.count(0), n);
        Due.is("count 1", desk.count(1), rules.size());
        Due.is("count 3", desk.count(3), Naive.weightOf(weights, (1 << n) - 1));
    }

    private void setWeights() {
        weights = new int[n];
        int most = random.nextBoolean() ? 3 : 1000000;
        for (int i = 0; i < n; i++) {
            weights[i] = random.nextInt(most + 1);
            Due.is("weight", desk.weight(i, weights[i]), 1);
        }
    }

    private void add(int number, Naive rule, int depth) {
        Due.is("the rule's number", number, rules.size());
        rules.add(rule);
        depths.add(depth);
    }

    private void addPlain(int kind) {
        if (kind != 0) {
            long[] numbers = numbersOf(kind);
            add(Due.rule(desk, kind, numbers), Naive.of(n, kind, numbers), 1);
        }
    }

    private long[] numbersOf(int kind) {
        switch (kind) {
            case 1:
                return new long[] {random.nextInt(Math.min(n + 2, 13)), 99};
            case 2:
                return parts();
            case 3:
                return nested();
            case 4:
                return below(2 * n, 2 + random.nextInt(Math.min(15, n + 2)));
            case 5:
                return rows();
            default:
                int places = 1 + random.nextInt(12);
                long[] numbers = below(n, 4096);
                for (int i = 0; i < n; i++) {
                    numbers[i] &= below(1, 4096)[0] & (1 << places) - 1;
                }
                return numbers;
        }
    }

    private long[] below(int size, int bound) {
        return random.longs(size, 0, bound).toArray();
    }

    private long[] parts() {
        int most = 1 + random.nextInt(12);
        long[] parts = below(n, most);
        int greatest = (int) Arrays.stream(parts).max().getAsLong();
        long[] numbers = Arrays.copyOf(parts, n + greatest + 1);
        for (int i = n; i < numbers.length; i++) {
            numbers[i] = random.nextInt(4);
        }
        return numbers;
    }

    private long[] nested() {
        List<Integer> sets = new ArrayList<>();
        for (int tries = 0; tries < 20; tries++) {
            int set = random.nextInt(1 << n);
            boolean lies = sets.stream().allMatch(s -> (s & set) == 0 || (s & set) == s || (s & set) == set);
            if (lies) {
                sets.add(set);
            }
        }
        long[] numbers = new long[1 + 2 * sets.size()];
        numbers[0] = sets.size();
        for (int i = 0; i < sets.size(); i++) {
            numbers[1 + 2 * i] = sets.get(i);
            numbers[2 + 2 * i] = random.nextInt(4) == 0 ? 12 : random.nextInt(Integer.bitCount(sets.get(i)) + 1);
        }
        return numbers;
    }

    private long[] rows() {
        int prime = new int[] {2, 3, 5, 7}[random.nextInt(4)];
        int width = 1 + random.nextInt(n < 8 || prime == 2 ? 6 : prime == 3 ? 5 : 3);
        long[] numbers = new long[2 + n * width];
        numbers[0] = prime;
        numbers[1] = width;
        for (int i = 2; i < numbers.length; i++) {
            numbers[i] = random.nextInt(3) == 0 ? 0 : random.nextInt(prime);
        }
        return numbers;
    }

    /** Tells the sets of another rule, at times with one too many or too few. */
    private void addTold() {
        Naive model = rules.get(random.nextInt(rules.size()));
        List<Long> sets = new ArrayList<>();
        for (int set = 0; set <= model.all; set++) {
            if (model.allowed[set] && random.nextInt(60) != 0) {
                sets.add((long) set);
            }
        }
        for (int extra = random.nextInt(3); extra > 0; extra--) {
            sets.add((long) random.nextInt(1 << n));
        }
        java.util.Collections.shuffle(sets, random);
        if (sets.size() > 150) {
            return;
        }
        sets.add(0, (long) sets.size());
        long[] numbers = sets.stream().mapToLong(Long::longValue).toArray();
        Naive rule = Naive.of(n, 0, numbers);
        int[] breach = rule.breach();
        int answer = Due.rule(desk, 0, numbers);
        if (breach[0] == 0) {
            add(answer, rule, 1);
            return;
        }
        Due.is("a told rule that breaks the law", answer, -9);
        for (int what = 0; what < 3; what++) {
            Due.is("broken " + what + " of " + sets, desk.broken(what), breach[what]);
        }
    }

    private void addMade() {
        int a = random.nextInt(rules.size());
        int b = random.nextInt(rules.size());
        int t = random.nextInt(1 << n) & random.nextInt(1 << n);
        int kind = 7 + random.nextInt(4);
        int depth = 1 + Math.max(depths.get(a), kind == 10 ? depths.get(b) : 1);
        int answer = kind == 7 ? desk.less(a, t) : kind == 8 ? desk.take(a, t)
                : kind == 9 ? desk.turn(a) : desk.join(a, b);
        if (depth > 3) {
            Due.is("a rule too deep", answer, -3);
            return;
        }
        Naive x = rules.get(a);
        add(answer, kind == 7 ? x.less(t) : kind == 8 ? x.taken(t)
                : kind == 9 ? x.turned() : x.joined(rules.get(b)), depth);
        Due.is("look 0", desk.look(answer, 0), kind);
        Due.is("look 3", desk.look(answer, 3), a);
        Due.is("look 4", desk.look(answer, 4), kind == 10 ? b : -1);
    }

    private void askOne(int i) {
        Naive rule = rules.get(i);
        Due.is("look 1", desk.look(i, 1), rule.rank(rule.all));
        Due.is("look 2", desk.look(i, 2), rule.howMany());
        Due.is("look 5", desk.look(i, 5), depths.get(i));
        for (int set = 0; set <= rule.all; set++) {
            String of = " of kind " + desk.look(i, 0) + " and set " + set;
            Due.is("allows" + of, desk.allows(i, set), rule.allowed[set] ? 1 : 0);
            Due.is("rank" + of, desk.rank(i, set), rule.rank(set));
            Due.is("span" + of, desk.span(i, set), rule.span(set));
            Due.is("ring" + of, desk.ring(i, set), rule.allowed[set] ? 0 : rule.ring(set));
            int thing = random.nextInt(n);
            Due.is("exchange" + of, desk.exchange(i, set, thing), rule.exchange(set, thing));
        }
        Due.is("full, heaviest", desk.full(i, false), rule.full(weights, false));
        Due.is("full, lightest", desk.full(i, true), rule.full(weights, true));
        int[] deal = rule.deal();
        Due.is("fewest", desk.fewest(i), rule.fewest());
        for (int thing = 0; thing < n; thing++) {
            Due.is("dealt " + thing, desk.dealt(i, thing), deal == null ? -2 : deal[thing]);
        }
        Due.is("crowd", desk.crowd(i), rule.crowd());
        Due.is("pack", desk.pack(i), rule.pack());
    }

    private void askTwo(int a, int b, int c) {
        Naive first = rules.get(a);
        Naive second = rules.get(b);
        Due.is("both", desk.both(a, b), first.both(second));
        Due.is("split", desk.split(a, b), first.split(second));
        for (int k = -1; k <= n + 1; k++) {
            Due.is("most " + k, desk.most(a, b, k), first.most(second, weights, k));
        }
        Due.is("three", desk.three(a, b, c), first.three(second, rules.get(c)));
        Due.is("same", desk.same(a, b), first.same(second) ? 1 : 0);
    }
}
