import java.util.function.IntUnaryOperator;

/** Promises 10 to 13 and 15, each boundary that they name and either side of it. */
public final class MadeEdgeTest {
    public static void main(String[] args) {
        rulesThatThereAre();
        setsFrom0ToAll();
        atMost24();
        threeWithinOneAnother();
        joinCountsTheDeeper();
        firstRefusal();
        ofNothingAndOfAll();
        lessAndTakeOfRings();
        joinOfSetsThatShare();
        lookAtRulesThatThereAre();
        lookAtRanksAndSets();
        lookAtWhatItIsMadeOf();
        Due.done();
    }

    private static final String[] NAMES = {"10: less", "11: take", "12: turn", "13: join", "13: join with"};

    /** The five ways to make a rule of a rule; the set that two of them take is t. */
    private static IntUnaryOperator[] ways(IndependenceDesk desk, int t) {
        return new IntUnaryOperator[] {rule -> desk.less(rule, t), rule -> desk.take(rule, t),
            rule -> desk.turn(rule), rule -> desk.join(rule, 0), rule -> desk.join(0, rule)};
    }

    private static void rulesThatThereAre() {
        for (int way = 0; way < 5; way++) {
            IndependenceDesk none = Due.desk(3);
            Due.is(NAMES[way] + " of none", ways(none, 0)[way].applyAsInt(0), -2);
            int[] wrong = {-1, 2, 24, Integer.MIN_VALUE, Integer.MAX_VALUE};
            for (int rule : wrong) {
                IndependenceDesk desk = Due.even(3, 1, 2);
                Due.is(NAMES[way] + " of " + rule, ways(desk, 1)[way].applyAsInt(rule), -2);
                Due.is("no rule is made", desk.count(1), 2);
            }
            IndependenceDesk desk = Due.even(3, 1, 2);
            Due.is(NAMES[way] + " of the first", ways(desk, 1)[way].applyAsInt(0), 2);
            Due.is(NAMES[way] + " of the last", ways(desk, 1)[way].applyAsInt(1), 3);
        }
    }

    private static void setsFrom0ToAll() {
        for (int n = 1; n <= 12; n++) {
            int all = (1 << n) - 1;
            IndependenceDesk desk = Due.even(n, 1);
            Due.justWithin("10: t of " + n, 0, all, -2, t -> desk.less(0, t));
            Due.justWithin("11: t of " + n, 0, all, -2, t -> desk.take(0, t));
            Due.is("four rules were made", desk.count(1), 5);
        }
    }

    private static void atMost24() {
        for (int way = 0; way < 5; way++) {
            IndependenceDesk desk = Due.even(2, 1);
            for (int i = 1; i < 24; i++) {
                Due.is(NAMES[way] + ", rule " + i, ways(desk, 0)[way].applyAsInt(0), i);
            }
            Due.is(NAMES[way] + ", there are 24", ways(desk, 0)[way].applyAsInt(0), -8);
            Due.is("no rule is made", desk.count(1), 24);
        }
    }

    private static void threeWithinOneAnother() {
        for (int way = 0; way < 5; way++) {
            for (int inner = 0; inner < 5; inner++) {
                IndependenceDesk desk = Due.even(3, 1);
                Due.is("the second", ways(desk, 1)[inner].applyAsInt(0), 1);
                Due.is("15: two within one another", desk.look(1, 5), 2);
                Due.is("the third", ways(desk, 1)[inner].applyAsInt(1), 2);
                Due.is("15: three within one another", desk.look(2, 5), 3);
                Due.is(NAMES[way] + " of two", ways(desk, 1)[way].applyAsInt(1), 3);
                Due.is(NAMES[way] + " of three", ways(desk, 1)[way].applyAsInt(2), -3);
                Due.is("no rule is made", desk.count(1), 4);
            }
        }
    }

    private static void joinCountsTheDeeper() {
        IndependenceDesk desk = Due.even(3, 1);
        Due.is("the second", desk.turn(0), 1);
        Due.is("the third", desk.turn(1), 2);
        int[][] fine = {{0, 0, 2}, {0, 1, 3}, {1, 0, 3}, {1, 1, 3}};
        for (int i = 0; i < fine.length; i++) {
            Due.is("13: join", desk.join(fine[i][0], fine[i][1]), 3 + i);
            Due.is("15: how many within one another", desk.look(3 + i, 5), fine[i][2]);
        }
        int[][] deep = {{0, 2}, {2, 0}, {1, 2}, {2, 1}, {2, 2}};
        for (int[] two : deep) {
            Due.is("13: join of " + two[0] + " and " + two[1], desk.join(two[0], two[1]), -3);
        }
    }

    private static void firstRefusal() {
        IndependenceDesk desk = Due.even(3, 1);
        Due.is("the second", desk.turn(0), 1);
        Due.is("the third", desk.turn(1), 2);
        Due.is("10: no set, too deep", desk.less(2, 8), -2);
        Due.is("11: no set, too deep", desk.take(2, -1), -2);
        Due.is("13: no rule, too deep", desk.join(2, 3), -2);
        Due.is("13: no rule, too deep the other way", desk.join(3, 2), -2);
        for (int i = 3; i < 24; i++) {
            Due.is("one more", desk.turn(0), i);
        }
        IntUnaryOperator[] ways = ways(desk, 0);
        for (int way = 0; way < 5; way++) {
            Due.is(NAMES[way] + ": 24, too deep", ways[way].applyAsInt(2), -8);
            Due.is(NAMES[way] + ": 24, no rule", ways[way].applyAsInt(24), -2);
        }
        Due.is("10: 24, no set", desk.less(0, 8), -2);
        Due.is("11: 24, no set", desk.take(0, 8), -2);
    }

    /** Rule 0: the empty set; 1: at most two; 2: all sets. */
    private static void ofNothingAndOfAll() {
        int[] sizes = {3, 12};
        for (int n : sizes) {
            int all = (1 << n) - 1;
            IndependenceDesk desk = Due.even(n, 0, 2, n);
            Due.is("10: less nothing is the same", desk.same(1, desk.less(1, 0)), 1);
            Due.is("10: less all is the empty set", desk.same(0, desk.less(2, all)), 1);
            Due.is("11: nothing taken is the same", desk.same(1, desk.take(1, 0)), 1);
            Due.is("11: all taken leaves the empty set", desk.same(0, desk.take(2, all)), 1);
            Due.is("12: the empty set turned is all", desk.same(2, desk.turn(0)), 1);
            Due.is("12: all turned is the empty set", desk.same(0, desk.turn(2)), 1);
            Due.is("13: joined with the empty set, the same", desk.same(1, desk.join(1, 0)), 1);
            Due.is("13: the other way", desk.same(1, desk.join(0, 1)), 1);
            Due.is("13: joined with all, all", desk.same(2, desk.join(1, 2)), 1);
            Due.is("13: two and two", desk.look(desk.join(1, 1), 1), Math.min(n, 4));
            Due.is("12: turned", desk.look(desk.turn(1), 1), n - 2);
            Due.is("13: of nothing and nothing", desk.same(0, desk.join(0, 0)), 1);
        }
    }

    /** Rule 0: edges 0 and 1 between the same ends, 2 from an end to itself, 3 apart. */
    private static void lessAndTakeOfRings() {
        IndependenceDesk desk = Due.desk(4);
        Due.is("edges", Due.rule(desk, 4, 0, 1, 1, 0, 2, 2, 3, 4), 0);
        Due.is("10: one of two is left", desk.less(0, 1), 1);
        Due.is("10: its sets", desk.look(1, 2), 4);
        Due.is("10: nothing of t", desk.allows(1, 1), 0);
        Due.is("10: the other", desk.allows(1, 10), 1);
        Due.is("11: one of two is taken", desk.take(0, 1), 2);
        Due.is("11: nothing of t", desk.allows(2, 1), 0);
        Due.is("11: the other may not come", desk.allows(2, 2), 0);
        Due.is("11: what is apart may", desk.allows(2, 8), 1);
        Due.is("11: both are taken, a ring", desk.take(0, 3), 3);
        Due.is("11: the same", desk.same(2, 3), 1);
        Due.is("11: what is never allowed is taken", desk.take(0, 4), 4);
        Due.is("11: the same as without it", desk.same(0, 4), 1);
        Due.is("12: turned, what was never allowed is alone", desk.turn(0), 5);
        Due.is("12: one of the two and it", desk.allows(5, 5), 1);
        Due.is("12: not both", desk.allows(5, 3), 0);
        Due.is("12: not what each full set has", desk.allows(5, 8), 0);
    }

    private static void joinOfSetsThatShare() {
        IndependenceDesk desk = Due.desk(3);
        Due.is("one of 0 and 1", Due.rule(desk, 2, 0, 0, 1, 1, 0), 0);
        Due.is("one of 1 and 2", Due.rule(desk, 2, 1, 0, 0, 1, 0), 1);
        Due.is("13: join", desk.join(0, 1), 2);
        int[] due = {1, 1, 1, 1, 1, 1, 1, 0};
        for (int set = 0; set < 8; set++) {
            Due.is("13: set " + set, desk.allows(2, set), due[set]);
        }
        Due.is("13: with itself", desk.join(0, 0), 3);
        Due.is("13: both of 0 and 1", desk.allows(3, 3), 1);
        Due.is("13: nothing that neither allows", desk.allows(3, 4), 0);
    }

    private static void lookAtRulesThatThereAre() {
        IndependenceDesk none = Due.desk(3);
        Due.is("15: no rule yet", none.look(0, 0), -1);
        IndependenceDesk desk = Due.even(3, 1, 2);
        Due.justWithin("15: a rule", 0, 1, -1, rule -> desk.look(rule, 0));
        Due.is("joined", desk.join(0, 1), 2);
        Due.justWithin("15: what", 0, 5, -1, what -> desk.look(2, what));
        Due.is("15: neither", desk.look(3, 6), -1);
    }

    private static void lookAtRanksAndSets() {
        IndependenceDesk desk = Due.even(12, 0, 1, 11, 12);
        int[] ranks = {0, 1, 11, 12};
        int[] sets = {1, 13, 4095, 4096};
        for (int rule = 0; rule < 4; rule++) {
            Due.is("15: rank of all", desk.look(rule, 1), ranks[rule]);
            Due.is("15: sets", desk.look(rule, 2), sets[rule]);
        }
        IndependenceDesk one = Due.even(1, 0, 1, 12);
        int[] few = {1, 2, 2};
        for (int rule = 0; rule < 3; rule++) {
            Due.is("15: rank of one thing", one.look(rule, 1), few[rule] - 1);
            Due.is("15: sets of one thing", one.look(rule, 2), few[rule]);
        }
    }

    private static void lookAtWhatItIsMadeOf() {
        IndependenceDesk desk = Due.even(3, 1, 2);
        int[][] due = {{1, 1, 4, -1, -1, 1}, {1, 2, 7, -1, -1, 1}, {7, 1, 3, 0, -1, 2}, {8, 1, 3, 1, -1, 2},
            {9, 2, 7, 0, -1, 2}, {10, 3, 8, 0, 1, 2}, {10, 3, 8, 1, 0, 2}, {10, 2, 7, 0, 0, 2}, {9, 0, 1, 5, -1, 3}};
        Due.is("less", desk.less(0, 1), 2);
        Due.is("take", desk.take(1, 1), 3);
        Due.is("turn", desk.turn(0), 4);
        Due.is("join", desk.join(0, 1), 5);
        Due.is("join", desk.join(1, 0), 6);
        Due.is("join", desk.join(0, 0), 7);
        Due.is("turn", desk.turn(5), 8);
        for (int rule = 0; rule < due.length; rule++) {
            for (int what = 0; what <= 5; what++) {
                Due.is("15: look at " + rule + ", " + what, desk.look(rule, what), due[rule][what]);
            }
        }
    }
}
