import java.util.List;
import java.util.function.ToLongFunction;

/** A refused call changes nothing, and a question changes nothing either. */
public final class RefusedTest {
    private static final int MIN = Integer.MIN_VALUE;
    private static final int MAX = Integer.MAX_VALUE;

    public static void main(String[] args) {
        fresh();
        weight();
        row();
        tear();
        write();
        copy();
        rule();
        ruleBreaksLaw();
        madeRules();
        with24Rules();
        questions();
        readAndCount();
        Due.done();
    }

    /** Three things with weights, rows of each width in slots 0 to 5, rules three deep, a breach. */
    private static IndependenceDesk desk() {
        IndependenceDesk desk = Due.desk(3);
        desk.weight(0, 5);
        desk.weight(2, 1000000);
        Due.lay(desk, 0, 0, 1, 2, 3);
        Due.lay(desk, 1, 1, 4, 5);
        Due.lay(desk, 2, 2, 6, 7, 8, 9);
        Due.lay(desk, 3, 3, Long.MAX_VALUE, -1);
        Due.lay(desk, 4, 0);
        Due.lay(desk, 5, 0, 2, 3, 0, 6, 0);
        Due.lay(desk, 6, 0, 5, 0, 1, 2, 3, 4);
        Due.is("a breach", desk.rule(0, 6), -9);
        Due.is("a rule", desk.rule(1, 0), 0);
        Due.is("a second", desk.less(0, 1), 1);
        Due.is("a third", desk.join(1, 0), 2);
        return desk;
    }

    private static void changesNothing(String what, long due, ToLongFunction<IndependenceDesk> call) {
        List<Long> before = State.of(desk());
        IndependenceDesk desk = desk();
        Due.is(what, call.applyAsLong(desk), due);
        Due.is(what + " changes nothing", State.of(desk).equals(before), true);
    }

    private static void fresh() {
        int[] wrong = {MIN, -1, 0, 13, 14, MAX};
        for (int n : wrong) {
            changesNothing("2: fresh " + n, 0, desk -> desk.fresh(n) ? 1 : 0);
        }
    }

    private static void weight() {
        int[][] wrong = {{-1, 7}, {3, 7}, {MIN, 7}, {MAX, 7}, {0, -1}, {0, 1000001}, {2, MIN}, {2, MAX}, {3, -1}};
        for (int[] x : wrong) {
            changesNothing("3: weight " + x[0] + ", " + x[1], -1, desk -> desk.weight(x[0], x[1]));
        }
    }

    private static void row() {
        int[][] wrong = {{-1, 0, 1, -2}, {10, 0, 1, -2}, {0, -1, 1, -2}, {0, 4, 1, -2}, {0, 0, 201, -2},
            {0, 0, MAX, -2}, {0, 0, -1, -3}, {0, 0, MIN, -3}, {9, 0, 201, -2}, {9, 0, -1, -3}, {9, 4, 0, -2}};
        for (int[] x : wrong) {
            changesNothing("4: row of " + x[2] + " in " + x[0], x[3], desk -> desk.row(x[0], x[1], x[2]));
        }
    }

    private static void tear() {
        int[] wrong = {MIN, -1, 7, 9, 10, MAX};
        for (int slot : wrong) {
            changesNothing("5: tear " + slot, 0, desk -> desk.tear(slot) ? 1 : 0);
        }
    }

    private static void write() {
        int[][] wrong = {{-1, 0, -2}, {10, 0, -2}, {MIN, 0, -2}, {MAX, 0, -2}, {7, 0, -5}, {9, -1, -5},
            {0, -1, -6}, {0, 3, -6}, {0, MIN, -6}, {0, MAX, -6}, {4, 0, -6}, {4, -1, -6}, {1, 2, -6}};
        for (int[] x : wrong) {
            changesNothing("6: write " + x[0] + ", " + x[1], x[2], desk -> desk.write(x[0], x[1], 77));
        }
    }

    private static void copy() {
        int[][] wrong = {{-1, 0, 0, 0, 1, -2}, {0, 0, 10, 0, 1, -2}, {7, 0, 0, 0, 1, -5}, {0, 0, 7, 0, 1, -5},
            {0, 0, 1, 0, 1, -7}, {2, 0, 3, 0, 1, -7}, {0, -1, 5, 0, 1, -6}, {0, 0, 5, -1, 1, -6}, {0, 0, 5, 0, -1, -6},
            {0, 0, 5, 0, 4, -6}, {0, 1, 5, 0, 3, -6}, {5, 0, 0, 0, 4, -6}, {0, 0, 5, 3, 3, -6}, {0, 1, 5, 1, MAX, -6},
            {0, MAX, 5, 0, 1, -6}, {0, 0, 5, MAX, 1, -6}, {0, 0, 4, 0, 1, -6}, {4, 0, 0, 0, 1, -6}};
        for (int[] x : wrong) {
            changesNothing("8: copy of " + x[0] + " to " + x[2], x[5],
                    desk -> desk.copy(x[0], x[1], x[2], x[3], x[4]));
        }
    }

    private static void rule() {
        int[][] wrong = {{-1, 0, -2}, {7, 0, -2}, {10, 0, -2}, {0, -1, -2}, {1, 10, -2}, {1, 7, -5}, {0, 9, -5},
            {1, 4, -6}, {0, 1, -6}, {2, 1, -6}, {3, 1, -6}, {4, 0, -6}, {5, 5, -4}, {6, 1, -6}, {1, 3, -4},
            {0, 3, -4}, {6, 3, -4}, {3, 5, -7}};
        for (int[] x : wrong) {
            changesNothing("9: rule of kind " + x[0] + " of slot " + x[1], x[2], desk -> desk.rule(x[0], x[1]));
        }
    }

    /** Slot 6 breaks the law as before: not even what is broken changes. */
    private static void ruleBreaksLaw() {
        changesNothing("9: rule that breaks the law", -9, desk -> desk.rule(0, 6));
    }

    private static void madeRules() {
        int[] noRules = {MIN, -1, 3, 24, MAX};
        for (int rule : noRules) {
            changesNothing("10: less of " + rule, -2, desk -> desk.less(rule, 0));
            changesNothing("11: take of " + rule, -2, desk -> desk.take(rule, 0));
            changesNothing("12: turn of " + rule, -2, desk -> desk.turn(rule));
            changesNothing("13: join of " + rule, -2, desk -> desk.join(rule, 0));
            changesNothing("13: join with " + rule, -2, desk -> desk.join(0, rule));
        }
        int[] noSets = {MIN, -1, 8, MAX};
        for (int set : noSets) {
            changesNothing("10: less by " + set, -2, desk -> desk.less(0, set));
            changesNothing("11: take by " + set, -2, desk -> desk.take(0, set));
        }
        changesNothing("10: less, too deep", -3, desk -> desk.less(2, 1));
        changesNothing("11: take, too deep", -3, desk -> desk.take(2, 1));
        changesNothing("12: turn, too deep", -3, desk -> desk.turn(2));
        changesNothing("13: join, too deep", -3, desk -> desk.join(2, 0));
        changesNothing("13: join with what is too deep", -3, desk -> desk.join(0, 2));
    }

    private static IndependenceDesk deskOf24() {
        IndependenceDesk desk = Due.desk(2);
        Due.lay(desk, 0, 0, 1);
        for (int i = 0; i < 24; i++) {
            Due.is("a rule", i < 12 ? desk.rule(1, 0) : desk.turn(0), i);
        }
        return desk;
    }

    private static void with24Rules() {
        List<Long> before = State.of(deskOf24());
        IndependenceDesk desk = deskOf24();
        Due.is("9: 24", desk.rule(1, 0), -8);
        Due.is("9: 24, of what is empty", desk.rule(1, 1), -8);
        Due.is("10: 24", desk.less(0, 1), -8);
        Due.is("11: 24", desk.take(0, 1), -8);
        Due.is("12: 24", desk.turn(0), -8);
        Due.is("13: 24", desk.join(0, 23), -8);
        Due.is("24 rules and nothing changes", State.of(desk).equals(before), true);
    }

    private static void questions() {
        int[] numbers = {-1, 0, 1, 2, 3, 7, 8};
        for (int a : numbers) {
            List<Long> before = State.of(desk());
            IndependenceDesk desk = desk();
            for (int b : numbers) {
                desk.look(a, b);
                desk.allows(a, b);
                desk.rank(a, b);
                desk.span(a, b);
                desk.ring(a, b);
                desk.exchange(a, b, 0);
                desk.exchange(a, 1, b);
                desk.full(a, b > 1);
                desk.both(a, b);
                desk.split(a, b);
                desk.most(a, 0, b);
                desk.three(a, b, 1);
                desk.fewest(a);
                desk.dealt(a, b);
                desk.crowd(a);
                desk.pack(a);
                desk.same(a, b);
            }
            Due.is("16 to 30: questions of rule " + a + " change nothing", State.of(desk).equals(before), true);
        }
    }

    private static void readAndCount() {
        List<Long> before = State.of(desk());
        IndependenceDesk desk = desk();
        for (int a = -1; a <= 10; a++) {
            desk.broken(a);
            desk.count(a);
            for (int b = -1; b <= 4; b++) {
                desk.read(a, b);
            }
        }
        Due.is("7, 14, 31: read, broken and count change nothing", State.of(desk).equals(before), true);
    }
}
