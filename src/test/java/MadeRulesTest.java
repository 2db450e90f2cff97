/** Promises 10 to 13: less, take, turn, join. */
public final class MadeRulesTest {
    public static void main(String[] args) {
        less();
        take();
        turn();
        join();
        refusals();
        depth();
        Due.done();
    }

    /** Four edges: a ring of three (0, 1, 2) and one more (3). */
    private static IndependenceDesk ringOfThree() {
        IndependenceDesk desk = new IndependenceDesk();
        desk.fresh(4);
        Due.is("rule", Due.rule(desk, 4, 0, 1, 1, 2, 2, 0, 2, 3), 0);
        return desk;
    }

    private static void allowsJust(IndependenceDesk desk, int rule, int... sets) {
        for (int set = 0; set < 16; set++) {
            final int asked = set;
            boolean due = java.util.Arrays.stream(sets).anyMatch(s -> s == asked);
            Due.is("rule " + rule + " allows " + set, desk.allows(rule, set), due ? 1 : 0);
        }
    }

    private static void isMade(IndependenceDesk desk, int rule, int kind, int a, int b) {
        Due.is("kind", desk.look(rule, 0), kind);
        Due.is("made of", desk.look(rule, 3), a);
        Due.is("and of", desk.look(rule, 4), b);
        Due.is("depth", desk.look(rule, 5), 2);
    }

    private static void less() {
        IndependenceDesk desk = ringOfThree();
        Due.is("less", desk.less(0, 0b1001), 1);
        isMade(desk, 1, 7, 0, -1);
        allowsJust(desk, 1, 0, 2, 4, 6);
        Due.is("less nothing", desk.less(0, 0), 2);
        Due.is("is the same", desk.same(0, 2), 1);
        Due.is("less all", desk.less(0, 15), 3);
        allowsJust(desk, 3, 0);
    }

    private static void take() {
        IndependenceDesk desk = ringOfThree();
        Due.is("take", desk.take(0, 0b0001), 1);
        isMade(desk, 1, 8, 0, -1);
        allowsJust(desk, 1, 0, 2, 4, 8, 10, 12);
        Due.is("take a ring", desk.take(0, 0b0111), 2);
        allowsJust(desk, 2, 0, 8);
        Due.is("take nothing", desk.take(0, 0), 3);
        Due.is("is the same", desk.same(0, 3), 1);
        Due.is("take all", desk.take(0, 15), 4);
        allowsJust(desk, 4, 0);
    }

    private static void turn() {
        IndependenceDesk desk = ringOfThree();
        Due.is("turn", desk.turn(0), 1);
        isMade(desk, 1, 9, 0, -1);
        allowsJust(desk, 1, 0, 1, 2, 4);
        Due.is("turn again", desk.turn(1), 2);
        Due.is("is the same", desk.same(0, 2), 1);
    }

    private static void join() {
        IndependenceDesk desk = ringOfThree();
        Due.is("one", Due.rule(desk, 1, 1), 1);
        Due.is("of the first two", Due.rule(desk, 2, 0, 0, 1, 1, 1, 0), 2);
        Due.is("join", desk.join(2, 1), 3);
        isMade(desk, 3, 10, 2, 1);
        allowsJust(desk, 3, 0, 1, 2, 3, 4, 5, 6, 8, 9, 10);
        Due.is("join with itself", desk.join(2, 2), 4);
        allowsJust(desk, 4, 0, 1, 2, 3);
        Due.is("join of the ring and one", desk.join(0, 1), 5);
        Due.is("all sets", desk.look(5, 2), 16);
    }

    private static void refusals() {
        IndependenceDesk desk = ringOfThree();
        for (int wrong : Due.WRONG_NUMBERS) {
            Due.is("less of " + wrong, desk.less(wrong, 0), -2);
            Due.is("less by " + wrong, desk.less(0, wrong), -2);
            Due.is("take of " + wrong, desk.take(wrong, 0), -2);
            Due.is("take by " + wrong, desk.take(0, wrong), -2);
            Due.is("turn of " + wrong, desk.turn(wrong), -2);
            Due.is("join of " + wrong, desk.join(wrong, 0), -2);
            Due.is("join with " + wrong, desk.join(0, wrong), -2);
        }
        Due.is("less by 16", desk.less(0, 16), -2);
        Due.is("take by 16", desk.take(0, 16), -2);
        Due.is("rule 1", desk.turn(1), -2);
        Due.is("no rule was made", desk.count(1), 1);
    }

    private static void depth() {
        IndependenceDesk desk = ringOfThree();
        Due.is("second", desk.less(0, 0), 1);
        Due.is("third", desk.join(0, 1), 2);
        Due.is("depth of the third", desk.look(2, 5), 3);
        Due.is("also third", desk.join(1, 0), 3);
        Due.is("its depth", desk.look(3, 5), 3);
        Due.is("less too deep", desk.less(2, 0), -3);
        Due.is("take too deep", desk.take(2, 0), -3);
        Due.is("turn too deep", desk.turn(2), -3);
        Due.is("join too deep, first", desk.join(2, 0), -3);
        Due.is("join too deep, second", desk.join(0, 2), -3);
        Due.is("no such set, too deep", desk.less(2, 16), -2);
        Due.is("no rule was made", desk.count(1), 4);
        for (int i = 4; i < 24; i++) {
            Due.is("one more", desk.turn(0), i);
        }
        Due.is("24 ahead of too deep", desk.turn(2), -8);
        Due.is("24, take", desk.take(0, 0), -8);
        Due.is("24, join", desk.join(0, 2), -8);
        Due.is("no such rule ahead of 24", desk.join(0, 24), -2);
        Due.is("fresh", desk.fresh(4), true);
        Due.is("rules can be made again", Due.rule(desk, 1, 2), 0);
        Due.is("of depth 1", desk.look(0, 5), 1);
        Due.is("made of none", desk.look(0, 3), -1);
    }
}
