/** Promises 26 to 29, each boundary that they name and either side of it. */
public final class DealEdgeTest {
    public static void main(String[] args) {
        rulesAndThings();
        thingsThatAreNotAllowedAlone();
        fewestOfEven();
        dealOfEven();
        dealLooksAhead();
        crowdIsRoundedUp();
        crowdIsTheLeastNumber();
        packOfRank0();
        packOfEven();
        packWithAThingThatEachNeeds();
        Due.done();
    }

    private static void rulesAndThings() {
        IndependenceDesk none = Due.desk(3);
        Due.is("26: no rules", none.fewest(0), -1);
        Due.is("27: no rules", none.dealt(0, 0), -1);
        Due.is("28: no rules", none.crowd(0), -1);
        Due.is("29: no rules", none.pack(0), -1);
        IndependenceDesk desk = Due.even(3, 1, 2, 0);
        Due.justWithin("26: a rule", 0, 2, -1, rule -> desk.fewest(rule));
        Due.justWithin("27: a rule", 0, 2, -1, rule -> desk.dealt(rule, 0));
        Due.justWithin("28: a rule", 0, 2, -1, rule -> desk.crowd(rule));
        Due.justWithin("29: a rule", 0, 2, -1, rule -> desk.pack(rule));
        int[] sizes = {1, 8, 12};
        for (int n : sizes) {
            IndependenceDesk other = Due.even(n, 1, 0);
            Due.justWithin("27: a thing", 0, n - 1, -1, thing -> other.dealt(0, thing));
            Due.justWithin("27: a thing that cannot be dealt", 0, n - 1, -1, thing -> other.dealt(1, thing));
        }
    }

    /** Each thing in turn is the only one that is not allowed. */
    private static void thingsThatAreNotAllowedAlone() {
        int[] sizes = {1, 8, 12};
        for (int n : sizes) {
            for (int not = 0; not < n; not++) {
                IndependenceDesk desk = Due.desk(n);
                Due.is("rule", Due.rule(desk, 3, 1, 1 << not, 0), 0);
                Due.is("the other one", Due.rule(desk, 3, 1, 1 << not, 1), 1);
                Due.is("26: not " + not, desk.fewest(0), -2);
                Due.is("27: not " + not + ", the first", desk.dealt(0, 0), -2);
                Due.is("27: not " + not + ", the last", desk.dealt(0, n - 1), -2);
                Due.is("28: not " + not, desk.crowd(0), -2);
                Due.is("26: each is", desk.fewest(1), 1);
                Due.is("27: each is, the first", desk.dealt(1, 0), 0);
                Due.is("27: each is, the last", desk.dealt(1, n - 1), 0);
                Due.is("28: each is", desk.crowd(1), 1);
            }
        }
    }

    private static void fewestOfEven() {
        for (int n = 1; n <= 12; n++) {
            IndependenceDesk desk = Due.desk(n);
            for (int k = 1; k <= 12; k++) {
                int due = 1;
                while (due * k < n) {
                    due++;
                }
                Due.is("26: " + n + " things by " + k, desk.fewest(Due.rule(desk, 1, k)), due);
            }
        }
    }

    private static void dealOfEven() {
        IndependenceDesk desk = Due.even(12, 1, 2, 5, 11, 12);
        int[] ks = {1, 2, 5, 11, 12};
        for (int rule = 0; rule < ks.length; rule++) {
            for (int thing = 0; thing < 12; thing++) {
                Due.is("27: by " + ks[rule] + ", thing " + thing, desk.dealt(rule, thing), thing / ks[rule]);
            }
        }
        Due.is("27: one thing", Due.even(1, 1).dealt(0, 0), 0);
    }

    /** Where a thing may not get the least number that is free for it. */
    private static void dealLooksAhead() {
        IndependenceDesk desk = Due.desk(4);
        Due.is("edges", Due.rule(desk, 4, 0, 1, 1, 2, 0, 1, 1, 2), 0);
        int[] due = {0, 0, 1, 1};
        Due.is("edges", Due.rule(desk, 4, 0, 1, 2, 3, 0, 2, 0, 2), 1);
        int[] ahead = {0, 0, 0, 1};
        for (int thing = 0; thing < 4; thing++) {
            Due.is("27: two twice, thing " + thing, desk.dealt(0, thing), due[thing]);
            Due.is("27: three and one, thing " + thing, desk.dealt(1, thing), ahead[thing]);
        }
        // Things 0 to 2 are the three edges at end 0. Were they together, the other three would be
        // a ring: thing 2 must get number 1.
        IndependenceDesk six = Due.desk(6);
        Due.is("edges", Due.rule(six, 4, 0, 1, 0, 2, 0, 3, 1, 2, 1, 3, 2, 3), 0);
        int[] trees = {0, 0, 1, 1, 0, 1};
        for (int thing = 0; thing < 6; thing++) {
            Due.is("27: two trees, thing " + thing, six.dealt(0, thing), trees[thing]);
        }
    }

    private static void crowdIsRoundedUp() {
        // The least set that needs one more than fewest - 1 sets of k can hold.
        int[][] cases = {{12, 12, 1}, {12, 11, 4095}, {11, 10, 2047}, {12, 6, 127}, {12, 5, 2047}, {12, 4, 511},
            {12, 1, 4095}, {1, 1, 1}, {2, 1, 3}, {3, 2, 7}, {4, 2, 7}, {5, 2, 31}, {6, 2, 31}};
        for (int[] one : cases) {
            Due.is("28: " + one[0] + " things by " + one[1], Due.even(one[0], one[1]).crowd(0), one[2]);
        }
    }

    private static void crowdIsTheLeastNumber() {
        IndependenceDesk desk = Due.desk(5);
        Due.is("one of 3, 4", Due.rule(desk, 2, 0, 0, 0, 1, 1, 3, 1), 0);
        Due.is("28: the two", desk.crowd(0), 24);
        Due.is("one of 0, 2; one of 3, 4", Due.rule(desk, 2, 0, 2, 0, 1, 1, 1, 1, 1), 1);
        Due.is("28: the two that are less", desk.crowd(1), 5);
        Due.is("two of 0, 1, 2; one of 3, 4", Due.rule(desk, 2, 0, 0, 0, 1, 1, 2, 1), 2);
        Due.is("28: three ahead of two", desk.crowd(2), 7);
    }

    private static void packOfRank0() {
        int[] sizes = {1, 8, 12};
        for (int n : sizes) {
            IndependenceDesk desk = Due.even(n, 0, 1);
            Due.is("29: rank 0", desk.pack(0), -2);
            Due.is("29: rank 1", desk.pack(1), n);
            Due.is("one thing is allowed", Due.rule(desk, 6, last(n)), 2);
            Due.is("29: just that one", desk.pack(2), 1);
        }
    }

    /** Places of n things, of which just the last has one. */
    private static long[] last(int n) {
        long[] numbers = new long[n];
        numbers[n - 1] = 2048;
        return numbers;
    }

    private static void packOfEven() {
        for (int n = 1; n <= 12; n++) {
            IndependenceDesk desk = Due.desk(n);
            for (int k = 1; k <= 12; k++) {
                int due = k >= n ? 1 : n / k;
                Due.is("29: " + n + " things by " + k, desk.pack(Due.rule(desk, 1, k)), due);
            }
        }
    }

    private static void packWithAThingThatEachNeeds() {
        IndependenceDesk desk = Due.desk(6);
        Due.is("thing 5, one of the others", Due.rule(desk, 2, 0, 0, 0, 0, 0, 1, 1, 1), 0);
        Due.is("29: each needs thing 5", desk.pack(0), 1);
        Due.is("one of 4, 5; one of the others", Due.rule(desk, 2, 0, 0, 0, 0, 1, 1, 1, 1), 1);
        Due.is("29: 4 or 5", desk.pack(1), 2);
        Due.is("one of three times two", Due.rule(desk, 2, 0, 0, 1, 1, 2, 2, 1, 1, 1), 2);
        Due.is("29: two", desk.pack(2), 2);
        Due.is("three times two edges", Due.rule(desk, 4, 0, 1, 0, 1, 0, 1, 1, 2, 1, 2, 1, 2), 3);
        Due.is("29: three", desk.pack(3), 3);
    }
}
