import java.util.ArrayList;
import java.util.Arrays;
import java.util.List;

/** A rule as the plain list of what it allows; every answer is searched for by its definition. */
final class Naive {
    final int n;
    final int all;
    final boolean[] allowed;
    private final int[] ranks;

    Naive(int n) {
        this.n = n;
        this.all = (1 << n) - 1;
        this.allowed = new boolean[1 << n];
        this.ranks = new int[1 << n];
        Arrays.fill(ranks, -1);
    }

    static Naive of(int n, int kind, long[] numbers) {
        Naive rule = new Naive(n);
        for (int set = 0; set <= rule.all; set++) {
            rule.allowed[set] = allowedBy(kind, n, numbers, set);
        }
        return rule;
    }

    private static boolean allowedBy(int kind, int n, long[] x, int set) {
        switch (kind) {
            case 0:
                return Arrays.stream(x, 1, 1 + (int) x[0]).anyMatch(told -> told == set);
            case 1:
                return Integer.bitCount(set) <= x[0];
            case 2:
                return withinParts(n, x, set);
            case 3:
                return withinNested(x, set);
            case 4:
                return isForest(n, x, set);
            case 5:
                return areFree(n, x, set);
            default:
                return havePlaces(n, x, set, 0, 0);
        }
    }

    private static boolean withinParts(int n, long[] x, int set) {
        int greatest = 0;
        int[] of = new int[12];
        for (int i = 0; i < n; i++) {
            greatest = Math.max(greatest, (int) x[i]);
            of[(int) x[i]] += set >> i & 1;
        }
        for (int part = 0; part <= greatest; part++) {
            if (of[part] > x[n + part]) {
                return false;
            }
        }
        return true;
    }

    private static boolean withinNested(long[] x, int set) {
        for (int i = 0; i < x[0]; i++) {
            if (Long.bitCount(set & x[1 + 2 * i]) > x[2 + 2 * i]) {
                return false;
            }
        }
        return true;
    }

    private static boolean isForest(int n, long[] x, int set) {
        int[] label = new int[16];
        for (int i = 0; i < 16; i++) {
            label[i] = i;
        }
        for (int i = 0; i < n; i++) {
            if ((set >> i & 1) != 0) {
                int from = label[(int) x[2 * i]];
                int to = label[(int) x[2 * i + 1]];
                if (from == to) {
                    return false;
                }
                for (int j = 0; j < 16; j++) {
                    label[j] = label[j] == from ? to : label[j];
                }
            }
        }
        return true;
    }

    /** Goes through all that sums of multiples can be, each a number to the base of the prime. */
    private static boolean areFree(int n, long[] x, int set) {
        int prime = (int) x[0];
        int width = (int) x[1];
        int size = 1;
        for (int c = 0; c < width; c++) {
            size *= prime;
        }
        List<Integer> sums = new ArrayList<>(List.of(0));
        boolean[] seen = new boolean[size];
        seen[0] = true;
        for (int i = 0; i < n; i++) {
            if ((set >> i & 1) == 0) {
                continue;
            }
            if (seen[added(x, i, 1, 0)]) {
                return false;
            }
            for (int old : List.copyOf(sums)) {
                for (int times = 1; times < prime; times++) {
                    int sum = added(x, i, times, old);
                    seen[sum] = true;
                    sums.add(sum);
                }
            }
        }
        return true;
    }

    private static int added(long[] x, int thing, int times, int sum) {
        int prime = (int) x[0];
        int width = (int) x[1];
        int result = 0;
        int place = 1;
        int rest = sum;
        for (int c = 0; c < width; c++) {
            result += (int) ((rest % prime + times * x[2 + thing * width + c]) % prime) * place;
            rest /= prime;
            place *= prime;
        }
        return result;
    }

    private static boolean havePlaces(int n, long[] x, int set, int thing, int used) {
        if (thing == n) {
            return true;
        }
        if ((set >> thing & 1) == 0) {
            return havePlaces(n, x, set, thing + 1, used);
        }
        for (int place = 0; place < 12; place++) {
            boolean free = (x[thing] >> place & 1) != 0 && (used >> place & 1) == 0;
            if (free && havePlaces(n, x, set, thing + 1, used | 1 << place)) {
                return true;
            }
        }
        return false;
    }

    Naive less(int t) {
        Naive made = new Naive(n);
        for (int set = 0; set <= all; set++) {
            made.allowed[set] = allowed[set] && (set & t) == 0;
        }
        return made;
    }

    Naive taken(int t) {
        Naive made = new Naive(n);
        for (int set = 0; set <= all; set++) {
            made.allowed[set] = (set & t) == 0 && rank(set | t) == rank(t) + Integer.bitCount(set);
        }
        return made;
    }

    Naive turned() {
        Naive made = new Naive(n);
        List<Integer> fullSets = fullSets();
        for (int set = 0; set <= all; set++) {
            for (int full : fullSets) {
                made.allowed[set] |= (full & set) == 0;
            }
        }
        return made;
    }

    Naive joined(Naive other) {
        Naive made = new Naive(n);
        for (int a = 0; a <= all; a++) {
            for (int b = 0; b <= all; b++) {
                made.allowed[a | b] |= allowed[a] && other.allowed[b];
            }
        }
        return made;
    }

    /** The rank, kept once it was searched for: so ask only when all that is allowed is known. */
    int rank(int set) {
        if (ranks[set] < 0) {
            ranks[set] = mostWithin(set);
        }
        return ranks[set];
    }

    private int mostWithin(int set) {
        int best = 0;
        for (int part = set; part > 0; part = (part - 1) & set) {
            if (allowed[part]) {
                best = Math.max(best, Integer.bitCount(part));
            }
        }
        return best;
    }

    List<Integer> fullSets() {
        int size = rank(all);
        List<Integer> found = new ArrayList<>();
        for (int set = 0; set <= all; set++) {
            if (allowed[set] && Integer.bitCount(set) == size) {
                found.add(set);
            }
        }
        return found;
    }

    int howMany() {
        int found = 0;
        for (boolean yes : allowed) {
            found += yes ? 1 : 0;
        }
        return found;
    }

    int span(int set) {
        int spanned = 0;
        for (int i = 0; i < n; i++) {
            if (rank(set | 1 << i) == rank(set)) {
                spanned |= 1 << i;
            }
        }
        return spanned;
    }

    int ring(int set) {
        for (int part = 0; part <= set; part++) {
            if ((part & ~set) == 0 && !allowed[part]) {
                return part;
            }
        }
        return 0;
    }

    int exchange(int set, int thing) {
        int bit = 1 << thing;
        if (!allowed[set] || (set & bit) != 0) {
            return -1;
        }
        int going = 0;
        for (int i = 0; i < n; i++) {
            if ((set >> i & 1) != 0 && allowed[set & ~(1 << i) | bit]) {
                going |= 1 << i;
            }
        }
        return allowed[set | bit] ? 0 : going;
    }

    int full(int[] weights, boolean light) {
        int best = -1;
        for (int set : fullSets()) {
            if (best < 0 || isBetter(weights, light, set, best)) {
                best = set;
            }
        }
        return best;
    }

    private boolean isBetter(int[] weights, boolean light, int set, int other) {
        int more = weightOf(weights, set) - weightOf(weights, other);
        if (more != 0) {
            return light ? more < 0 : more > 0;
        }
        int first = -1;
        for (int i = 0; i < n; i++) {
            boolean justOne = ((set ^ other) >> i & 1) != 0;
            if (justOne && (first < 0 || (light ? weights[i] < weights[first] : weights[i] > weights[first]))) {
                first = i;
            }
        }
        return first >= 0 && (set >> first & 1) != 0;
    }

    static int weightOf(int[] weights, int set) {
        int sum = 0;
        for (int i = 0; i < weights.length; i++) {
            sum += (set >> i & 1) * weights[i];
        }
        return sum;
    }

    int both(Naive other) {
        int best = 0;
        for (int set = all; set >= 0; set--) {
            if (allowed[set] && other.allowed[set] && Integer.bitCount(set) >= Integer.bitCount(best)) {
                best = set;
            }
        }
        return best;
    }

    int split(Naive other) {
        int size = Integer.bitCount(both(other));
        int set = 0;
        while (rank(set) + other.rank(all & ~set) != size) {
            set++;
        }
        return set;
    }

    int most(Naive other, int[] weights, int k) {
        int best = -1;
        for (int set = 0; set <= all; set++) {
            if (allowed[set] && other.allowed[set] && Integer.bitCount(set) == k) {
                best = Math.max(best, weightOf(weights, set));
            }
        }
        return best;
    }

    int three(Naive other, Naive third) {
        int best = 0;
        for (int set = 0; set <= all; set++) {
            if (allowed[set] && other.allowed[set] && third.allowed[set]) {
                best = Math.max(best, Integer.bitCount(set));
            }
        }
        return best;
    }

    boolean hasLoneRefused() {
        for (int i = 0; i < n; i++) {
            if (!allowed[1 << i]) {
                return true;
            }
        }
        return false;
    }

    /** The numbers of the deal; null if a thing alone is not allowed. */
    int[] deal() {
        if (hasLoneRefused()) {
            return null;
        }
        for (int heaps = 1; heaps <= n; heaps++) {
            int[] numbers = new int[n];
            if (dealsOn(0, new int[heaps], numbers)) {
                return numbers;
            }
        }
        return null;
    }

    private boolean dealsOn(int thing, int[] heaps, int[] numbers) {
        if (thing == n) {
            return true;
        }
        for (int j = 0; j < heaps.length; j++) {
            int before = heaps[j];
            heaps[j] |= 1 << thing;
            numbers[thing] = j;
            if (allowed[heaps[j]] && dealsOn(thing + 1, heaps, numbers)) {
                return true;
            }
            heaps[j] = before;
            if (before == 0) {
                // All heaps behind it are empty as well: what fails here fails there.
                return false;
            }
        }
        return false;
    }

    int fewest() {
        int[] numbers = deal();
        return numbers == null ? -2 : 1 + Arrays.stream(numbers).max().getAsInt();
    }

    int crowd() {
        int fewest = fewest();
        for (int set = 1; set <= all && fewest > 0; set++) {
            int rank = rank(set);
            if ((Integer.bitCount(set) + rank - 1) / rank == fewest) {
                return set;
            }
        }
        return -2;
    }

    int pack() {
        return rank(all) == 0 ? -2 : packed(fullSets(), 0, 0);
    }

    private int packed(List<Integer> full, int from, int used) {
        int best = 0;
        for (int i = from; i < full.size(); i++) {
            if ((full.get(i) & used) == 0) {
                best = Math.max(best, 1 + packed(full, i + 1, used | full.get(i)));
            }
        }
        return best;
    }

    boolean same(Naive other) {
        return Arrays.equals(allowed, other.allowed);
    }

    /** What broken() tells of these sets: part, first, second; part 0 if the law holds. */
    int[] breach() {
        if (!allowed[0]) {
            return new int[] {1, 0, 0};
        }
        for (int set = 0; set <= all; set++) {
            for (int part = 0; part < set && allowed[set]; part++) {
                if ((part & ~set) == 0 && !allowed[part]) {
                    return new int[] {2, set, part};
                }
            }
        }
        for (int first = 0; first <= all; first++) {
            for (int second = 0; second <= all; second++) {
                if (allowed[first] && allowed[second] && cannotGrow(first, second)) {
                    return new int[] {3, first, second};
                }
            }
        }
        return new int[] {0, 0, 0};
    }

    private boolean cannotGrow(int first, int second) {
        if (Integer.bitCount(second) <= Integer.bitCount(first)) {
            return false;
        }
        for (int i = 0; i < n; i++) {
            if (((second & ~first) >> i & 1) != 0 && allowed[first | 1 << i]) {
                return false;
            }
        }
        return true;
    }
}
