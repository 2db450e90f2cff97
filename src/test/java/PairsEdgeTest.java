import java.util.function.IntBinaryOperator;

/** Promises 22 to 25 and 30, each boundary that they name and either side of it. */
public final class PairsEdgeTest {
    public static void main(String[] args) {
        rulesThatThereAre();
        bothOfNothingAndOfAll();
        bothIsTheLeastNumber();
        splitAtEitherEnd();
        splitIsTheLeastNumber();
        mostOfK();
        mostOfNoWeightAndOfMost();
        threeAllowLessThanAnyTwo();
        threeOfNothingAndOfAll();
        sameButForOneSet();
        Due.done();
    }

    private static void rulesThatThereAre() {
        IndependenceDesk desk = Due.even(3, 1, 2);
        String[] names = {"22: both", "23: split", "24: most", "25: three", "25: three, third", "30: same"};
        IntBinaryOperator[] questions = {desk::both, desk::split, (a, b) -> desk.most(a, b, 1),
            (a, b) -> desk.three(a, b, 0), (a, b) -> desk.three(0, b, a), desk::same};
        for (int q = 0; q < names.length; q++) {
            IntBinaryOperator question = questions[q];
            Due.justWithin(names[q] + ", first rule", 0, 1, -1, a -> question.applyAsInt(a, 0));
            Due.justWithin(names[q] + ", second rule", 0, 1, -1, b -> question.applyAsInt(0, b));
            Due.is(names[q] + ", neither", question.applyAsInt(2, 2), -1);
        }
        IndependenceDesk none = Due.desk(3);
        Due.is("22: no rules", none.both(0, 0), -1);
        Due.is("23: no rules", none.split(0, 0), -1);
        Due.is("24: no rules", none.most(0, 0, 0), -1);
        Due.is("25: no rules", none.three(0, 0, 0), -1);
        Due.is("30: no rules", none.same(0, 0), -1);
    }

    private static void bothOfNothingAndOfAll() {
        int[] sizes = {1, 8, 12};
        for (int n : sizes) {
            IndependenceDesk desk = Due.even(n, 0, n);
            Due.is("22: nothing and nothing", desk.both(0, 0), 0);
            Due.is("22: nothing and all", desk.both(0, 1), 0);
            Due.is("22: all and nothing", desk.both(1, 0), 0);
            Due.is("22: all and all", desk.both(1, 1), (1 << n) - 1);
        }
    }

    private static void bothIsTheLeastNumber() {
        IndependenceDesk desk = Due.even(12, 1, 11, 12);
        Due.is("22: one thing", desk.both(0, 2), 1);
        Due.is("22: eleven things", desk.both(1, 2), 2047);
        IndependenceDesk four = Due.desk(4);
        Due.is("one of 0, 1; one of 2, 3", Due.rule(four, 2, 0, 0, 1, 1, 1, 1), 0);
        Due.is("one of 0, 2; one of 1, 3", Due.rule(four, 2, 0, 1, 0, 1, 1, 1), 1);
        Due.is("22: 1 and 2 ahead of 0 and 3", four.both(0, 1), 6);
        Due.is("not 0, one of 1, 2, 3", Due.rule(four, 2, 0, 1, 1, 1, 0, 1), 2);
        Due.is("22: the least thing that there may be", four.both(2, 0), 2);
        Due.is("one of 0, 1, 2; 3", Due.rule(four, 2, 0, 0, 0, 1, 1, 1), 3);
        Due.is("not 0, not 1", Due.rule(four, 2, 0, 0, 1, 1, 0, 2), 4);
        Due.is("22: more things ahead of a lesser number", four.both(3, 4), 12);
    }

    private static void splitAtEitherEnd() {
        int[] sizes = {1, 8, 12};
        for (int n : sizes) {
            int all = (1 << n) - 1;
            IndependenceDesk desk = Due.even(n, 0, n);
            Due.is("23: nothing and all", desk.split(0, 1), all);
            Due.is("23: all and nothing", desk.split(1, 0), 0);
            Due.is("23: nothing and nothing", desk.split(0, 0), 0);
            Due.is("23: all and all", desk.split(1, 1), 0);
        }
        IndependenceDesk desk = Due.even(12, 5, 6);
        Due.is("23: all by the lesser", desk.split(0, 1), 4095);
        Due.is("23: none, the other way", desk.split(1, 0), 0);
        Due.is("23: alike, none", desk.split(0, 0), 0);
    }

    private static void splitIsTheLeastNumber() {
        IndependenceDesk desk = Due.desk(3);
        Due.is("not 0; 1, 2", Due.rule(desk, 2, 0, 1, 1, 0, 2), 0);
        Due.is("0, 1; not 2", Due.rule(desk, 2, 0, 0, 1, 2, 0), 1);
        Due.is("22: just thing 1", desk.both(0, 1), 2);
        Due.is("23: 1 ahead of 3", desk.split(0, 1), 1);
        Due.is("23: 4 ahead of 6", desk.split(1, 0), 4);
        IndependenceDesk twelve = Due.desk(12);
        long[] first = new long[14];
        long[] second = new long[14];
        java.util.Arrays.fill(first, 0, 6, 1);
        java.util.Arrays.fill(second, 6, 12, 1);
        first[12] = 6;
        first[13] = 1;
        second[12] = 6;
        second[13] = 1;
        Due.is("one of 0 to 5, all of 6 to 11", Due.rule(twelve, 2, first), 0);
        Due.is("all of 0 to 5, one of 6 to 11", Due.rule(twelve, 2, second), 1);
        Due.is("22: one of each", twelve.both(0, 1), 65);
        Due.is("23: the first six", twelve.split(0, 1), 63);
        Due.is("23: the last six, the other way", twelve.split(1, 0), 4032);
    }

    private static void mostOfK() {
        IndependenceDesk desk = Due.even(12, 0, 11, 12);
        for (int i = 0; i < 12; i++) {
            desk.weight(i, 1 << i);
        }
        Due.justWithin("24: k of twelve", 0, 12, -1, k -> desk.most(2, 2, k));
        Due.justWithin("24: k of eleven", 0, 11, -1, k -> desk.most(2, 1, k));
        Due.justWithin("24: k of none", 0, 0, -1, k -> desk.most(0, 2, k));
        Due.is("24: none", desk.most(2, 2, 0), 0);
        Due.is("24: one", desk.most(2, 2, 1), 2048);
        Due.is("24: eleven", desk.most(1, 2, 11), 4094);
        Due.is("24: twelve", desk.most(2, 2, 12), 4095);
        Due.is("24: twelve of eleven", desk.most(1, 2, 12), -1);
        Due.is("24: twelve of eleven, the other way", desk.most(2, 1, 12), -1);
        IndependenceDesk one = Due.even(1, 1);
        Due.justWithin("24: k of one thing", 0, 1, -1, k -> one.most(0, 0, k));
    }

    private static void mostOfNoWeightAndOfMost() {
        IndependenceDesk desk = Due.even(12, 12);
        for (int i = 0; i < 12; i++) {
            desk.weight(i, 0);
        }
        Due.is("24: of no weight, there is one", desk.most(0, 0, 12), 0);
        Due.is("24: of no weight, there is none", desk.most(0, 0, 13), -1);
        for (int i = 0; i < 12; i++) {
            desk.weight(i, 1000000);
        }
        Due.is("24: the greatest weight", desk.most(0, 0, 12), 12000000);
        Due.is("24: one less", desk.most(0, 0, 11), 11000000);
    }

    private static void threeAllowLessThanAnyTwo() {
        IndependenceDesk desk = Due.desk(3);
        Due.is("not 0", Due.rule(desk, 2, 0, 1, 1, 0, 2), 0);
        Due.is("not 1", Due.rule(desk, 2, 1, 0, 1, 0, 2), 1);
        Due.is("not 2", Due.rule(desk, 2, 1, 1, 0, 0, 2), 2);
        Due.is("22: of two", desk.both(0, 1), 4);
        Due.is("25: of three", desk.three(0, 1, 2), 0);
        Due.is("25: of two, the third twice", desk.three(0, 1, 1), 1);
        Due.is("25: of two, the first twice", desk.three(0, 0, 2), 1);
        Due.is("25: of two, the first last", desk.three(1, 2, 1), 1);
        Due.is("25: of one", desk.three(2, 2, 2), 2);
    }

    private static void threeOfNothingAndOfAll() {
        int[] sizes = {1, 8, 12};
        for (int n : sizes) {
            IndependenceDesk desk = Due.even(n, 0, 1, n);
            Due.is("25: all", desk.three(2, 2, 2), n);
            Due.is("25: one, by the first", desk.three(1, 2, 2), 1);
            Due.is("25: one, by the second", desk.three(2, 1, 2), 1);
            Due.is("25: one, by the third", desk.three(2, 2, 1), 1);
            Due.is("25: none", desk.three(2, 1, 0), 0);
        }
    }

    private static void sameButForOneSet() {
        IndependenceDesk desk = Due.even(12, 11, 12, 12, 0);
        Due.is("30: but for all", desk.same(0, 1), 0);
        Due.is("30: but for all, the other way", desk.same(1, 0), 0);
        Due.is("30: alike", desk.same(1, 2), 1);
        Due.is("30: itself", desk.same(3, 3), 1);
        IndependenceDesk four = Due.even(4, 2);
        for (int set = 0; set < 16; set++) {
            if (Integer.bitCount(set) == 2) {
                long[] numbers = new long[11];
                int at = 1;
                for (int other = 0; other < 16; other++) {
                    if (Integer.bitCount(other) <= 2 && other != set) {
                        numbers[at++] = other;
                    }
                }
                numbers[0] = 10;
                int told = Due.rule(four, 0, numbers);
                Due.is("30: but for " + set, four.same(0, told), 0);
            }
        }
        IndependenceDesk one = Due.even(1, 0, 1, 12);
        Due.is("30: of one thing", one.same(0, 1), 0);
        Due.is("30: of one thing, alike", one.same(1, 2), 1);
    }
}
