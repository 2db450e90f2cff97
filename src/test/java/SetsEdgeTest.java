import java.util.function.IntBinaryOperator;

/** Promises 16 to 21, each boundary that they name and either side of it. */
public final class SetsEdgeTest {
    private static final String[] NAMES = {"16: allows", "17: rank", "18: span", "19: ring", "20: exchange"};

    public static void main(String[] args) {
        setsFrom0ToAll();
        rulesThatThereAre();
        allowsUpToTheBound();
        rankOfTheEmptySetAndOfAll();
        spanHasItsOwn();
        spanOfWhatIsNeverAllowed();
        ringOfAnAllowedSet();
        ringIsTheLeastNumber();
        ringOfAllTwelve();
        exchangeOfThings();
        exchangeOfSets();
        fullOfNothingAndOfAll();
        fullOfAlike();
        fullOfGreatWeights();
        fullOfRulesThatThereAre();
        Due.done();
    }

    /** The five questions of a rule and a set; the last one of thing 0. */
    private static IntBinaryOperator[] questions(IndependenceDesk desk) {
        return new IntBinaryOperator[] {desk::allows, desk::rank, desk::span, desk::ring,
            (rule, set) -> desk.exchange(rule, set, 0)};
    }

    private static void setsFrom0ToAll() {
        for (int n = 1; n <= 12; n++) {
            int all = (1 << n) - 1;
            IndependenceDesk desk = Due.even(n, 12);
            for (int q = 0; q < 4; q++) {
                IntBinaryOperator question = questions(desk)[q];
                Due.justWithin(NAMES[q] + " of " + n, 0, all, -1, set -> question.applyAsInt(0, set));
            }
            Due.justWithin("20: of " + n + ", without thing 0", 0, all - 1, -1, set -> desk.exchange(0, set, 0));
            Due.is("20: no set behind all", desk.exchange(0, all + 1, 0), -1);
        }
    }

    private static void rulesThatThereAre() {
        IndependenceDesk none = Due.desk(2);
        IndependenceDesk desk = Due.even(2, 0, 1);
        for (int q = 0; q < 5; q++) {
            Due.is(NAMES[q] + ", no rules", questions(none)[q].applyAsInt(0, 0), -1);
            IntBinaryOperator question = questions(desk)[q];
            Due.justWithin(NAMES[q] + ", a rule", 0, 1, -1, rule -> question.applyAsInt(rule, 0));
            Due.is(NAMES[q] + ", neither", question.applyAsInt(2, 4), -1);
        }
    }

    private static void allowsUpToTheBound() {
        IndependenceDesk desk = Due.even(12, 0, 1, 6, 11, 12);
        int[] ks = {0, 1, 6, 11, 12};
        for (int rule = 0; rule < ks.length; rule++) {
            for (int size = 0; size <= 12; size++) {
                int due = size <= ks[rule] ? 1 : 0;
                Due.is("16: the first " + size, desk.allows(rule, (1 << size) - 1), due);
                Due.is("16: the last " + size, desk.allows(rule, 4095 & ~((1 << 12 - size) - 1)), due);
            }
        }
    }

    private static void rankOfTheEmptySetAndOfAll() {
        IndependenceDesk desk = Due.even(12, 0, 1, 6, 11, 12);
        int[] ks = {0, 1, 6, 11, 12};
        for (int rule = 0; rule < ks.length; rule++) {
            for (int size = 0; size <= 12; size++) {
                int due = Math.min(size, ks[rule]);
                Due.is("17: of the first " + size, desk.rank(rule, (1 << size) - 1), due);
                Due.is("17: of the last " + size, desk.rank(rule, 4095 & ~((1 << 12 - size) - 1)), due);
            }
        }
    }

    private static void spanHasItsOwn() {
        IndependenceDesk desk = Due.even(4, 0, 2, 4);
        for (int set = 0; set < 16; set++) {
            Due.is("18: none ever makes more", desk.span(0, set), 15);
            Due.is("18: two make all", desk.span(1, set), Integer.bitCount(set) < 2 ? set : 15);
            Due.is("18: just its own", desk.span(2, set), set);
        }
        IndependenceDesk twelve = Due.even(12, 11, 12);
        Due.is("18: eleven of twelve", twelve.span(0, 2047), 4095);
        Due.is("18: ten of twelve", twelve.span(0, 1023), 1023);
        Due.is("18: of all", twelve.span(1, 4095), 4095);
        Due.is("18: of all but the last", twelve.span(1, 2047), 2047);
    }

    private static void spanOfWhatIsNeverAllowed() {
        IndependenceDesk desk = Due.desk(4);
        Due.is("edges", Due.rule(desk, 4, 0, 0, 0, 1, 1, 0, 5, 5), 0);
        Due.is("18: of the empty set", desk.span(0, 0), 9);
        Due.is("18: of one that is never allowed", desk.span(0, 8), 9);
        Due.is("18: of one of two", desk.span(0, 2), 15);
    }

    private static void ringOfAnAllowedSet() {
        IndependenceDesk desk = Due.even(4, 0, 2, 4);
        for (int set = 0; set < 16; set++) {
            Due.is("19: all are allowed", desk.ring(2, set), 0);
            Due.is("19: the least thing alone", desk.ring(0, set), set & -set);
        }
        Due.is("19: two things", desk.ring(1, 12), 0);
        Due.is("19: three things", desk.ring(1, 14), 14);
        Due.is("19: the first three of four", desk.ring(1, 15), 7);
    }

    /** The least number, be it of more things than another one. */
    private static void ringIsTheLeastNumber() {
        IndependenceDesk desk = Due.desk(5);
        Due.is("edges", Due.rule(desk, 4, 0, 1, 1, 2, 2, 0, 3, 4, 4, 3), 0);
        Due.is("19: three, then two", desk.ring(0, 31), 7);
        Due.is("19: just the two", desk.ring(0, 27), 24);
        Due.is("19: just the three", desk.ring(0, 15), 7);
        Due.is("edges", Due.rule(desk, 4, 0, 1, 1, 2, 2, 0, 3, 4, 7, 7), 1);
        Due.is("19: three, then one alone", desk.ring(1, 31), 7);
        Due.is("19: the one alone", desk.ring(1, 29), 16);
    }

    private static void ringOfAllTwelve() {
        IndependenceDesk desk = Due.even(12, 11, 12, 0);
        Due.is("19: all twelve", desk.ring(0, 4095), 4095);
        Due.is("19: eleven of them", desk.ring(0, 2047), 0);
        Due.is("19: none", desk.ring(1, 4095), 0);
        Due.is("19: the last thing", desk.ring(2, 2048), 2048);
    }

    private static void exchangeOfThings() {
        int[] sizes = {1, 8, 12};
        for (int n : sizes) {
            IndependenceDesk desk = Due.even(n, 1);
            Due.justWithin("20: a thing of " + n, 0, n - 1, -1, thing -> desk.exchange(0, 0, thing));
        }
        IndependenceDesk desk = Due.even(3, 2);
        Due.is("20: the first is in it", desk.exchange(0, 3, 0), -1);
        Due.is("20: the last is in it", desk.exchange(0, 6, 2), -1);
        Due.is("20: the last is not", desk.exchange(0, 3, 2), 3);
        Due.is("20: the first is not", desk.exchange(0, 6, 0), 6);
    }

    private static void exchangeOfSets() {
        IndependenceDesk desk = Due.even(4, 0, 2, 4);
        Due.is("20: may come to the empty set", desk.exchange(1, 0, 3), 0);
        Due.is("20: may come to one", desk.exchange(1, 1, 3), 0);
        Due.is("20: in place of either of two", desk.exchange(1, 3, 3), 3);
        Due.is("20: three are not allowed", desk.exchange(1, 7, 3), -1);
        Due.is("20: never", desk.exchange(0, 0, 3), 0);
        Due.is("20: may come to all else", desk.exchange(2, 7, 3), 0);
        Due.is("edges", Due.rule(desk, 4, 0, 1, 1, 2, 2, 3, 2, 0), 3);
        Due.is("20: just those of the ring", desk.exchange(3, 7, 3), 3);
        Due.is("edges", Due.rule(desk, 4, 0, 1, 1, 2, 2, 3, 3, 3), 4);
        Due.is("20: for none of them", desk.exchange(4, 7, 3), 0);
    }

    private static void fullOfNothingAndOfAll() {
        int[] sizes = {1, 8, 12};
        for (int n : sizes) {
            IndependenceDesk desk = Due.even(n, 0, 1, n);
            for (int i = 0; i < 2; i++) {
                boolean light = i == 1;
                Due.is("21: the empty set", desk.full(0, light), 0);
                Due.is("21: the first of all alike", desk.full(1, light), 1);
                Due.is("21: all", desk.full(2, light), (1 << n) - 1);
            }
        }
    }

    private static void fullOfAlike() {
        IndependenceDesk desk = Due.even(4, 1, 2, 3);
        int[] weights = {2, 3, 3, 2};
        for (int i = 0; i < 4; i++) {
            desk.weight(i, weights[i]);
        }
        Due.is("21: the first of the heaviest", desk.full(0, false), 2);
        Due.is("21: the first of the lightest", desk.full(0, true), 1);
        Due.is("21: both of the heaviest", desk.full(1, false), 6);
        Due.is("21: both of the lightest", desk.full(1, true), 9);
        Due.is("21: they and the first of the others", desk.full(2, false), 7);
        Due.is("21: the lightest and the first of the others", desk.full(2, true), 11);
        desk.weight(3, 3);
        Due.is("21: the first two of three alike", desk.full(1, false), 6);
        desk.weight(1, 2);
        desk.weight(3, 2);
        Due.is("21: the first two of three lightest", desk.full(1, true), 3);
    }

    private static void fullOfGreatWeights() {
        IndependenceDesk desk = Due.even(12, 11, 1);
        for (int i = 0; i < 12; i++) {
            desk.weight(i, 1000000);
        }
        Due.is("21: all but the last of all alike", desk.full(0, false), 2047);
        Due.is("21: so with the lightest", desk.full(0, true), 2047);
        desk.weight(5, 999999);
        Due.is("21: all but the lightest", desk.full(0, false), 4095 & ~(1 << 5));
        Due.is("21: it and the first others", desk.full(0, true), 2047);
        Due.is("21: it alone", desk.full(1, true), 1 << 5);
        desk.weight(11, 0);
        Due.is("21: all but what has no weight", desk.full(0, false), 2047);
        Due.is("21: with what has no weight", desk.full(0, true), 4095 & ~(1 << 10));
        Due.is("21: what has no weight, alone", desk.full(1, true), 1 << 11);
    }

    private static void fullOfRulesThatThereAre() {
        IndependenceDesk desk = Due.even(3, 1, 2);
        Due.justWithin("21: a rule, heaviest", 0, 1, -1, rule -> desk.full(rule, false));
        Due.justWithin("21: a rule, lightest", 0, 1, -1, rule -> desk.full(rule, true));
        Due.is("21: no rules", Due.desk(3).full(0, false), -1);
    }
}
